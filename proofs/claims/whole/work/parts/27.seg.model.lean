/-! walks, by program (wip/whole/seg.py) -/
theorem s7_thrown {K : Int → mH → Prop} {h : mH} (T : K (h 30 0 0) h) : OkI M7_thrown [mR 30 0] h K := by
  refine Ok.of rfl (n := 0) rfl ?_
  show At (mPI K) M7_thrown 0 [mR 30 0] [] h
  refine mw_aload_n (dT d7_thrown 0 rfl) rfl (by decide) ?_
  refine mw_getI fl_X7_69 (dT d7_thrown 1 rfl) ?_
  exact mw_iret rfl (dT d7_thrown 2 rfl) ⟨_, rfl, T⟩
abbrev A7_feed_20 (K : Int → mH → Prop) (x1 x2 x3 x4 x5 x6 : Int) (h : mH) : Prop := At (mPI K) M7_feed 20 [mR 30 0, mI x1, mI x2, mI x3, mI x4, mI x5, mI x6, mU] [] h
abbrev A7_feed_73 (K : Int → mH → Prop) (x1 x2 x3 x4 x5 x6 s0 : Int) (h : mH) : Prop := At (mPI K) M7_feed 73 [mR 30 0, mI x1, mI x2, mI x3, mI x4, mI x5, mI x6, mU] [mI s0] h
theorem s7_feed_20 {K : Int → mH → Prop} {x1 x2 x3 x4 x5 x6 : Int} {h : mH} (T : (mInR x6) ∧ (20 ≤ x6 → (∀ h1 : mH, h1 = mSet h 30 0 2 ((h 30 0 2) + 20) → (K (h1 30 0 2) h1))) ∧ (¬ 20 ≤ x6 → ((mInR x6) ∧ (4 ≤ x6 → ((mInR x6) ∧ (8 ≤ x6 → ((mInR x6) ∧ (12 ≤ x6 → ((mInR x6) ∧ (16 ≤ x6 → (A7_feed_73 K x1 x2 x3 x4 x5 x6 x5 h)) ∧ (¬ 16 ≤ x6 → (A7_feed_73 K x1 x2 x3 x4 x5 x6 x4 h)))) ∧ (¬ 12 ≤ x6 → (A7_feed_73 K x1 x2 x3 x4 x5 x6 x3 h)))) ∧ (¬ 8 ≤ x6 → (A7_feed_73 K x1 x2 x3 x4 x5 x6 x2 h)))) ∧ (¬ 4 ≤ x6 → (A7_feed_73 K x1 x2 x3 x4 x5 x6 x1 h))))) : A7_feed_20 K x1 x2 x3 x4 x5 x6 h := by
  refine mw_iload (dT d7_feed 11 rfl) rfl ?_
  refine mw_bipush (by decide) (dT d7_feed 12 rfl) ?_
  obtain ⟨z, T1, T2⟩ := T
  refine mw_icmp_ge 110 (dT d7_feed 13 rfl) (by decide) ⟨z, by decide⟩ (fun z => ?_) (fun z => ?_)
  · have T := T1 z
    refine mw_aload_n (dT d7_feed 56 rfl) rfl (by decide) ?_
    refine mw_dup (dT d7_feed 57 rfl) (fun _ z => by cases z) ?_
    refine mw_getI fl_X7_72 (dT d7_feed 58 rfl) ?_
    refine mw_bipush (by decide) (dT d7_feed 59 rfl) ?_
    refine mw_iadd (dT d7_feed 60 rfl) ?_
    have T := T _ rfl
    refine mw_putI fp_X7_72 (dT d7_feed 61 rfl) ?_
    refine mw_aload_n (dT d7_feed 62 rfl) rfl (by decide) ?_
    refine mw_getI fl_X7_72 (dT d7_feed 63 rfl) ?_
    exact mw_iret rfl (dT d7_feed 64 rfl) ⟨_, rfl, T⟩
  · have T := T2 z
    refine mw_iload (dT d7_feed 14 rfl) rfl ?_
    refine mw_iconst (dT d7_feed 15 rfl) ?_
    obtain ⟨z, T1, T2⟩ := T
    refine mw_icmp_ge 37 (dT d7_feed 16 rfl) (by decide) ⟨z, by decide⟩ (fun z => ?_) (fun z => ?_)
    · have T := T1 z
      refine mw_iload (dT d7_feed 19 rfl) rfl ?_
      refine mw_bipush (by decide) (dT d7_feed 20 rfl) ?_
      obtain ⟨z, T1, T2⟩ := T
      refine mw_icmp_ge 48 (dT d7_feed 21 rfl) (by decide) ⟨z, by decide⟩ (fun z => ?_) (fun z => ?_)
      · have T := T1 z
        refine mw_iload (dT d7_feed 24 rfl) rfl ?_
        refine mw_bipush (by decide) (dT d7_feed 25 rfl) ?_
        obtain ⟨z, T1, T2⟩ := T
        refine mw_icmp_ge 59 (dT d7_feed 26 rfl) (by decide) ⟨z, by decide⟩ (fun z => ?_) (fun z => ?_)
        · have T := T1 z
          refine mw_iload (dT d7_feed 29 rfl) rfl ?_
          refine mw_bipush (by decide) (dT d7_feed 30 rfl) ?_
          obtain ⟨z, T1, T2⟩ := T
          refine mw_icmp_ge 71 (dT d7_feed 31 rfl) (by decide) ⟨z, by decide⟩ (fun z => ?_) (fun z => ?_)
          · have T := T1 z
            refine mw_iload (dT d7_feed 34 rfl) rfl ?_
            exact T
          · have T := T2 z
            refine mw_iload (dT d7_feed 32 rfl) rfl ?_
            refine mw_goto 73 (dT d7_feed 33 rfl) (by decide) ?_
            exact T
        · have T := T2 z
          refine mw_iload_n (dT d7_feed 27 rfl) rfl ?_
          refine mw_goto 73 (dT d7_feed 28 rfl) (by decide) ?_
          exact T
      · have T := T2 z
        refine mw_iload_n (dT d7_feed 22 rfl) rfl ?_
        refine mw_goto 73 (dT d7_feed 23 rfl) (by decide) ?_
        exact T
    · have T := T2 z
      refine mw_iload_n (dT d7_feed 17 rfl) rfl ?_
      refine mw_goto 73 (dT d7_feed 18 rfl) (by decide) ?_
      exact T
theorem s7_feed_73 {K : Int → mH → Prop} {x1 x2 x3 x4 x5 x6 s0 : Int} {h : mH} (T : (mInR x6) ∧ ((0 ≤ ((h 30 0 2) + x6) ∧ ((h 30 0 2) + x6) < 900) ∧ (∀ h1 : mH, h1 = mSet h 31 0 ((h 30 0 2) + x6) (mAnd (mShr s0 (24 - (8 * (Int.tmod x6 4)))) 255) → (A7_feed_20 K x1 x2 x3 x4 x5 (x6 + 1) h1)))) : A7_feed_73 K x1 x2 x3 x4 x5 x6 s0 h := by
  refine mw_istore (dT d7_feed 35 rfl) (by decide) ?_
  refine mw_aload_n (dT d7_feed 36 rfl) rfl (by decide) ?_
  refine mw_getR fl_X7_7 (dT d7_feed 37 rfl) ?_
  refine mw_aload_n (dT d7_feed 38 rfl) rfl (by decide) ?_
  refine mw_getI fl_X7_72 (dT d7_feed 39 rfl) ?_
  refine mw_iload (dT d7_feed 40 rfl) rfl ?_
  refine mw_iadd (dT d7_feed 41 rfl) ?_
  refine mw_iload (dT d7_feed 42 rfl) rfl ?_
  refine mw_bipush (by decide) (dT d7_feed 43 rfl) ?_
  refine mw_bipush (by decide) (dT d7_feed 44 rfl) ?_
  refine mw_iload (dT d7_feed 45 rfl) rfl ?_
  refine mw_iconst (dT d7_feed 46 rfl) ?_
  obtain ⟨z, T⟩ := T
  refine mw_irem (dT d7_feed 47 rfl) ⟨z, by decide, by decide⟩ ?_
  refine mw_imul (dT d7_feed 48 rfl) ?_
  refine mw_isub (dT d7_feed 49 rfl) ?_
  refine mw_ishr (dT d7_feed 50 rfl) ?_
  refine mw_sipush (by decide) (dT d7_feed 51 rfl) ?_
  refine mw_iand (dT d7_feed 52 rfl) ?_
  obtain ⟨z, T⟩ := T
  have T := T _ rfl
  refine mw_iastore ro_31 (dT d7_feed 53 rfl) z ?_
  refine mw_iinc (dT d7_feed 54 rfl) rfl (by decide) ?_
  refine mw_goto 20 (dT d7_feed 55 rfl) (by decide) ?_
  exact At.forget [7] T
theorem s7_feed {K : Int → mH → Prop} {x1 : Int} {x2 : Int} {x3 : Int} {x4 : Int} {x5 : Int} {h : mH} (T : ∀ h1 : mH, h1 = mSet h 30 0 0 0 → ((mInR (h1 30 0 2)) ∧ ((h1 30 0 2) ≤ 880 → (A7_feed_20 K x1 x2 x3 x4 x5 0 h1)) ∧ (¬ (h1 30 0 2) ≤ 880 → (K ((-1)) h1)))) : OkI M7_feed [mR 30 0, mI x1, mI x2, mI x3, mI x4, mI x5] h K := by
  refine Ok.of rfl (n := 2) rfl ?_
  show At (mPI K) M7_feed 0 [mR 30 0, mI x1, mI x2, mI x3, mI x4, mI x5, mU, mU] [] h
  refine mw_aload_n (dT d7_feed 0 rfl) rfl (by decide) ?_
  refine mw_iconst (dT d7_feed 1 rfl) ?_
  have T := T _ rfl
  refine mw_putI fp_X7_69 (dT d7_feed 2 rfl) ?_
  refine mw_aload_n (dT d7_feed 3 rfl) rfl (by decide) ?_
  refine mw_getI fl_X7_72 (dT d7_feed 4 rfl) ?_
  refine mw_sipush (by decide) (dT d7_feed 5 rfl) ?_
  obtain ⟨z, T1, T2⟩ := T
  refine mw_icmp_le 17 (dT d7_feed 6 rfl) (by decide) ⟨z, by decide⟩ (fun z => ?_) (fun z => ?_)
  · have T := T1 z
    refine mw_iconst (dT d7_feed 9 rfl) ?_
    refine mw_istore (dT d7_feed 10 rfl) (by decide) ?_
    exact T
  · have T := T2 z
    refine mw_iconst (dT d7_feed 7 rfl) ?_
    exact mw_iret rfl (dT d7_feed 8 rfl) ⟨_, rfl, T⟩
theorem s7_here {K : Int → mH → Prop} {h : mH} (T : (mInR (h 30 0 14) ∧ mInR (h 30 0 13)) ∧ ((h 30 0 13) ≤ (h 30 0 14) → (K ((-1)) h)) ∧ (¬ (h 30 0 13) ≤ (h 30 0 14) → ((0 ≤ (h 30 0 14) ∧ (h 30 0 14) < 900) ∧ (K (h 31 0 (h 30 0 14)) h)))) : OkI M7_here [mR 30 0] h K := by
  refine Ok.of rfl (n := 0) rfl ?_
  show At (mPI K) M7_here 0 [mR 30 0] [] h
  refine mw_aload_n (dT d7_here 0 rfl) rfl (by decide) ?_
  refine mw_getI fl_X7_75 (dT d7_here 1 rfl) ?_
  refine mw_aload_n (dT d7_here 2 rfl) rfl (by decide) ?_
  refine mw_getI fl_X7_78 (dT d7_here 3 rfl) ?_
  obtain ⟨z, T1, T2⟩ := T
  refine mw_icmp_ge 23 (dT d7_here 4 rfl) (by decide) z (fun z => ?_) (fun z => ?_)
  · have T := T1 z
    refine mw_iconst (dT d7_here 11 rfl) ?_
    exact mw_iret rfl (dT d7_here 12 rfl) ⟨_, rfl, T⟩
  · have T := T2 z
    refine mw_aload_n (dT d7_here 5 rfl) rfl (by decide) ?_
    refine mw_getR fl_X7_7 (dT d7_here 6 rfl) ?_
    refine mw_aload_n (dT d7_here 7 rfl) rfl (by decide) ?_
    refine mw_getI fl_X7_75 (dT d7_here 8 rfl) ?_
    obtain ⟨z, T⟩ := T
    refine mw_iaload ro_31 (dT d7_here 9 rfl) z ?_
    refine mw_goto 24 (dT d7_here 10 rfl) (by decide) ?_
    exact mw_iret rfl (dT d7_here 12 rfl) ⟨_, rfl, T⟩
theorem s7_isSmall {K : Int → mH → Prop} {x0 : Int} {h : mH} (T : (mInR x0) ∧ (x0 < 97 → (K 0 h)) ∧ (¬ x0 < 97 → ((mInR x0) ∧ (122 < x0 → (K 0 h)) ∧ (¬ 122 < x0 → (K 1 h))))) : OkI M7_isSmall [mI x0] h K := by
  refine Ok.of rfl (n := 0) rfl ?_
  show At (mPI K) M7_isSmall 0 [mI x0] [] h
  refine mw_iload_n (dT d7_isSmall 0 rfl) rfl ?_
  refine mw_bipush (by decide) (dT d7_isSmall 1 rfl) ?_
  obtain ⟨z, T1, T2⟩ := T
  refine mw_icmp_lt 16 (dT d7_isSmall 2 rfl) (by decide) ⟨z, by decide⟩ (fun z => ?_) (fun z => ?_)
  · have T := T1 z
    refine mw_iconst (dT d7_isSmall 8 rfl) ?_
    exact mw_zret rfl (dT d7_isSmall 9 rfl) (Or.inl rfl) ⟨_, rfl, T⟩
  · have T := T2 z
    refine mw_iload_n (dT d7_isSmall 3 rfl) rfl ?_
    refine mw_bipush (by decide) (dT d7_isSmall 4 rfl) ?_
    obtain ⟨z, T1, T2⟩ := T
    refine mw_icmp_gt 16 (dT d7_isSmall 5 rfl) (by decide) ⟨z, by decide⟩ (fun z => ?_) (fun z => ?_)
    · have T := T1 z
      refine mw_iconst (dT d7_isSmall 8 rfl) ?_
      exact mw_zret rfl (dT d7_isSmall 9 rfl) (Or.inl rfl) ⟨_, rfl, T⟩
    · have T := T2 z
      refine mw_iconst (dT d7_isSmall 6 rfl) ?_
      refine mw_goto 17 (dT d7_isSmall 7 rfl) (by decide) ?_
      exact mw_zret rfl (dT d7_isSmall 9 rfl) (Or.inr rfl) ⟨_, rfl, T⟩
theorem s7_isDigit {K : Int → mH → Prop} {x0 : Int} {h : mH} (T : (mInR x0) ∧ (x0 < 48 → (K 0 h)) ∧ (¬ x0 < 48 → ((mInR x0) ∧ (57 < x0 → (K 0 h)) ∧ (¬ 57 < x0 → (K 1 h))))) : OkI M7_isDigit [mI x0] h K := by
  refine Ok.of rfl (n := 0) rfl ?_
  show At (mPI K) M7_isDigit 0 [mI x0] [] h
  refine mw_iload_n (dT d7_isDigit 0 rfl) rfl ?_
  refine mw_bipush (by decide) (dT d7_isDigit 1 rfl) ?_
  obtain ⟨z, T1, T2⟩ := T
  refine mw_icmp_lt 16 (dT d7_isDigit 2 rfl) (by decide) ⟨z, by decide⟩ (fun z => ?_) (fun z => ?_)
  · have T := T1 z
    refine mw_iconst (dT d7_isDigit 8 rfl) ?_
    exact mw_zret rfl (dT d7_isDigit 9 rfl) (Or.inl rfl) ⟨_, rfl, T⟩
  · have T := T2 z
    refine mw_iload_n (dT d7_isDigit 3 rfl) rfl ?_
    refine mw_bipush (by decide) (dT d7_isDigit 4 rfl) ?_
    obtain ⟨z, T1, T2⟩ := T
    refine mw_icmp_gt 16 (dT d7_isDigit 5 rfl) (by decide) ⟨z, by decide⟩ (fun z => ?_) (fun z => ?_)
    · have T := T1 z
      refine mw_iconst (dT d7_isDigit 8 rfl) ?_
      exact mw_zret rfl (dT d7_isDigit 9 rfl) (Or.inl rfl) ⟨_, rfl, T⟩
    · have T := T2 z
      refine mw_iconst (dT d7_isDigit 6 rfl) ?_
      refine mw_goto 17 (dT d7_isDigit 7 rfl) (by decide) ?_
      exact mw_zret rfl (dT d7_isDigit 9 rfl) (Or.inr rfl) ⟨_, rfl, T⟩
abbrev A7_token_0 (K : mH → Prop) (h : mH) : Prop := At (mPV K) M7_token 0 [mR 30 0, mU] [] h
abbrev A7_token_64 (K : mH → Prop) (x1 : Int) (h : mH) : Prop := At (mPV K) M7_token 64 [mR 30 0, mI x1] [] h
abbrev A7_token_162 (K : mH → Prop) (x1 : Int) (h : mH) : Prop := At (mPV K) M7_token 162 [mR 30 0, mI x1] [] h
theorem s7_token_0 {K : mH → Prop} {h : mH} (T : OkI M7_here [mR 30 0] h (fun v1 h1 => (mInR v1) ∧ (v1 = 10 → (∀ h2 : mH, h2 = mSet h1 30 0 14 ((h1 30 0 14) + 1) → (A7_token_0 K h2))) ∧ (¬ v1 = 10 → (OkI M7_here [mR 30 0] h1 (fun v2 h3 => (mInR v2) ∧ (¬ v2 = 32 → (∀ h4 : mH, h4 = mSet h3 30 0 15 (h3 30 0 14) → (OkI M7_here [mR 30 0] h4 (fun v3 h5 => (mInR v3) ∧ (¬ v3 = ((-1)) → (OkI M7_isSmall [mI v3] h5 (fun v4 h6 => (mInR v4) ∧ (v4 = 0 → (OkI M7_isDigit [mI v3] h6 (fun v5 h7 => (mInR v5) ∧ (v5 = 0 → ((mInR v3) ∧ (¬ v3 = 59 → (∀ h8 : mH, h8 = mSet h7 30 0 16 5 → (∀ h9 : mH, h9 = mSet h8 30 0 14 ((h8 30 0 14) + 1) → (K h9)))) ∧ (v3 = 59 → (∀ h10 : mH, h10 = mSet h7 30 0 16 3 → (∀ h11 : mH, h11 = mSet h10 30 0 14 ((h10 30 0 14) + 1) → (K h11)))))) ∧ (¬ v5 = 0 → (∀ h12 : mH, h12 = mSet h7 30 0 16 2 → (∀ h13 : mH, h13 = mSet h12 30 0 17 0 → (A7_token_162 K v3 h13))))))) ∧ (¬ v4 = 0 → (A7_token_64 K v3 h6))))) ∧ (v3 = ((-1)) → (∀ h14 : mH, h14 = mSet h5 30 0 16 4 → (K h14))))))) ∧ (v2 = 32 → (∀ h15 : mH, h15 = mSet h3 30 0 14 ((h3 30 0 14) + 1) → (A7_token_0 K h15)))))))) : A7_token_0 K  h := by
  refine mw_aload_n (dT d7_token 0 rfl) rfl (by decide) ?_
  refine mw_callVI mv_7_here ml_X7_81 (by decide) (dT d7_token 1 rfl) (as := []) rfl rfl T (fun v1 h1 T => ?_)
  refine mw_bipush (by decide) (dT d7_token 2 rfl) ?_
  obtain ⟨z, T1, T2⟩ := T
  refine mw_icmp_eq 18 (dT d7_token 3 rfl) (by decide) ⟨z, by decide⟩ (fun z => ?_) (fun z => ?_)
  · have T := T1 z
    refine mw_aload_n (dT d7_token 8 rfl) rfl (by decide) ?_
    refine mw_dup (dT d7_token 9 rfl) (fun _ z => by cases z) ?_
    refine mw_getI fl_X7_75 (dT d7_token 10 rfl) ?_
    refine mw_iconst (dT d7_token 11 rfl) ?_
    refine mw_iadd (dT d7_token 12 rfl) ?_
    have T := T _ rfl
    refine mw_putI fp_X7_75 (dT d7_token 13 rfl) ?_
    refine mw_goto 0 (dT d7_token 14 rfl) (by decide) ?_
    exact T
  · have T := T2 z
    refine mw_aload_n (dT d7_token 4 rfl) rfl (by decide) ?_
    refine mw_callVI mv_7_here ml_X7_81 (by decide) (dT d7_token 5 rfl) (as := []) rfl rfl T (fun v2 h3 T => ?_)
    refine mw_bipush (by decide) (dT d7_token 6 rfl) ?_
    obtain ⟨z, T1, T2⟩ := T
    refine mw_icmp_ne 31 (dT d7_token 7 rfl) (by decide) ⟨z, by decide⟩ (fun z => ?_) (fun z => ?_)
    · have T := T1 z
      refine mw_aload_n (dT d7_token 15 rfl) rfl (by decide) ?_
      refine mw_aload_n (dT d7_token 16 rfl) rfl (by decide) ?_
      refine mw_getI fl_X7_75 (dT d7_token 17 rfl) ?_
      have T := T _ rfl
      refine mw_putI fp_X7_85 (dT d7_token 18 rfl) ?_
      refine mw_aload_n (dT d7_token 19 rfl) rfl (by decide) ?_
      refine mw_callVI mv_7_here ml_X7_81 (by decide) (dT d7_token 20 rfl) (as := []) rfl rfl T (fun v3 h5 T => ?_)
      refine mw_istore_n (dT d7_token 21 rfl) (by decide) ?_
      refine mw_iload_n (dT d7_token 22 rfl) rfl ?_
      refine mw_iconst (dT d7_token 23 rfl) ?_
      obtain ⟨z, T1, T2⟩ := T
      refine mw_icmp_ne 57 (dT d7_token 24 rfl) (by decide) ⟨z, by decide⟩ (fun z => ?_) (fun z => ?_)
      · have T := T1 z
        refine mw_iload_n (dT d7_token 29 rfl) rfl ?_
        refine mw_callSI mt_7_isSmall ml_X7_91 (by decide) (dT d7_token 30 rfl) (as := [mI _]) rfl rfl T (fun v4 h6 T => ?_)
        obtain ⟨z, T1, T2⟩ := T
        refine mw_if_eq 145 (dT d7_token 31 rfl) (by decide) z (fun z => ?_) (fun z => ?_)
        · have T := T1 z
          refine mw_iload_n (dT d7_token 72 rfl) rfl ?_
          refine mw_callSI mt_7_isDigit ml_X7_104 (by decide) (dT d7_token 73 rfl) (as := [mI _]) rfl rfl T (fun v5 h7 T => ?_)
          obtain ⟨z, T1, T2⟩ := T
          refine mw_if_eq 220 (dT d7_token 74 rfl) (by decide) z (fun z => ?_) (fun z => ?_)
          · have T := T1 z
            refine mw_aload_n (dT d7_token 110 rfl) rfl (by decide) ?_
            refine mw_iload_n (dT d7_token 111 rfl) rfl ?_
            refine mw_bipush (by decide) (dT d7_token 112 rfl) ?_
            obtain ⟨z, T1, T2⟩ := T
            refine mw_icmp_ne 231 (dT d7_token 113 rfl) (by decide) ⟨z, by decide⟩ (fun z => ?_) (fun z => ?_)
            · have T := T1 z
              refine mw_iconst (dT d7_token 116 rfl) ?_
              have T := T _ rfl
              refine mw_putI fp_X7_88 (dT d7_token 117 rfl) ?_
              refine mw_aload_n (dT d7_token 118 rfl) rfl (by decide) ?_
              refine mw_dup (dT d7_token 119 rfl) (fun _ z => by cases z) ?_
              refine mw_getI fl_X7_75 (dT d7_token 120 rfl) ?_
              refine mw_iconst (dT d7_token 121 rfl) ?_
              refine mw_iadd (dT d7_token 122 rfl) ?_
              have T := T _ rfl
              refine mw_putI fp_X7_75 (dT d7_token 123 rfl) ?_
              exact mw_vret rfl (dT d7_token 124 rfl) ⟨rfl, T⟩
            · have T := T2 z
              refine mw_iconst (dT d7_token 114 rfl) ?_
              refine mw_goto 232 (dT d7_token 115 rfl) (by decide) ?_
              have T := T _ rfl
              refine mw_putI fp_X7_88 (dT d7_token 117 rfl) ?_
              refine mw_aload_n (dT d7_token 118 rfl) rfl (by decide) ?_
              refine mw_dup (dT d7_token 119 rfl) (fun _ z => by cases z) ?_
              refine mw_getI fl_X7_75 (dT d7_token 120 rfl) ?_
              refine mw_iconst (dT d7_token 121 rfl) ?_
              refine mw_iadd (dT d7_token 122 rfl) ?_
              have T := T _ rfl
              refine mw_putI fp_X7_75 (dT d7_token 123 rfl) ?_
              exact mw_vret rfl (dT d7_token 124 rfl) ⟨rfl, T⟩
          · have T := T2 z
            refine mw_aload_n (dT d7_token 75 rfl) rfl (by decide) ?_
            refine mw_iconst (dT d7_token 76 rfl) ?_
            have T := T _ rfl
            refine mw_putI fp_X7_88 (dT d7_token 77 rfl) ?_
            refine mw_aload_n (dT d7_token 78 rfl) rfl (by decide) ?_
            refine mw_iconst (dT d7_token 79 rfl) ?_
            have T := T _ rfl
            refine mw_putI fp_X7_98 (dT d7_token 80 rfl) ?_
            exact T
        · have T := T2 z
          exact T
      · have T := T2 z
        refine mw_aload_n (dT d7_token 25 rfl) rfl (by decide) ?_
        refine mw_iconst (dT d7_token 26 rfl) ?_
        have T := T _ rfl
        refine mw_putI fp_X7_88 (dT d7_token 27 rfl) ?_
        refine mw_goto 245 (dT d7_token 28 rfl) (by decide) ?_
        exact mw_vret rfl (dT d7_token 124 rfl) ⟨rfl, T⟩
    · have T := T2 z
      refine mw_aload_n (dT d7_token 8 rfl) rfl (by decide) ?_
      refine mw_dup (dT d7_token 9 rfl) (fun _ z => by cases z) ?_
      refine mw_getI fl_X7_75 (dT d7_token 10 rfl) ?_
      refine mw_iconst (dT d7_token 11 rfl) ?_
      refine mw_iadd (dT d7_token 12 rfl) ?_
      have T := T _ rfl
      refine mw_putI fp_X7_75 (dT d7_token 13 rfl) ?_
      refine mw_goto 0 (dT d7_token 14 rfl) (by decide) ?_
      exact T
theorem s7_token_64 {K : mH → Prop} {x1 : Int} {h : mH} (T : OkI M7_here [mR 30 0] h (fun v1 h1 => OkI M7_isSmall [mI v1] h1 (fun v2 h2 => (mInR v2) ∧ (v2 = 0 → (OkI M7_wordHere [mR 30 0] h2 (fun v3 h3 => ∀ h4 : mH, h4 = mSet h3 30 0 17 v3 → ((mInR (h4 30 0 17)) ∧ ((h4 30 0 17) = ((-1)) → ((mInR ((h4 30 0 14) - (h4 30 0 15))) ∧ (((h4 30 0 14) - (h4 30 0 15)) ≤ 6 → (∀ h5 : mH, h5 = mSet h4 30 0 16 1 → ((mInR (h5 30 0 16)) ∧ (¬ (h5 30 0 16) = 1 → (K h5)) ∧ ((h5 30 0 16) = 1 → (OkV M7_nameHere [mR 30 0] h5 (fun h6 => K h6)))))) ∧ (¬ ((h4 30 0 14) - (h4 30 0 15)) ≤ 6 → (∀ h7 : mH, h7 = mSet h4 30 0 16 5 → ((mInR (h7 30 0 16)) ∧ (¬ (h7 30 0 16) = 1 → (K h7)) ∧ ((h7 30 0 16) = 1 → (OkV M7_nameHere [mR 30 0] h7 (fun h8 => K h8)))))))) ∧ (¬ (h4 30 0 17) = ((-1)) → (∀ h9 : mH, h9 = mSet h4 30 0 16 0 → ((mInR (h9 30 0 16)) ∧ (¬ (h9 30 0 16) = 1 → (K h9)) ∧ ((h9 30 0 16) = 1 → (OkV M7_nameHere [mR 30 0] h9 (fun h10 => K h10)))))))))) ∧ (¬ v2 = 0 → (∀ h11 : mH, h11 = mSet h2 30 0 14 ((h2 30 0 14) + 1) → (A7_token_64 K x1 h11)))))) : A7_token_64 K x1 h := by
  refine mw_aload_n (dT d7_token 32 rfl) rfl (by decide) ?_
  refine mw_callVI mv_7_here ml_X7_81 (by decide) (dT d7_token 33 rfl) (as := []) rfl rfl T (fun v1 h1 T => ?_)
  refine mw_callSI mt_7_isSmall ml_X7_91 (by decide) (dT d7_token 34 rfl) (as := [mI _]) rfl rfl T (fun v2 h2 T => ?_)
  obtain ⟨z, T1, T2⟩ := T
  refine mw_if_eq 87 (dT d7_token 35 rfl) (by decide) z (fun z => ?_) (fun z => ?_)
  · have T := T1 z
    refine mw_aload_n (dT d7_token 43 rfl) rfl (by decide) ?_
    refine mw_aload_n (dT d7_token 44 rfl) rfl (by decide) ?_
    refine mw_callVI mv_7_wordHere ml_X7_95 (by decide) (dT d7_token 45 rfl) (as := []) rfl rfl T (fun v3 h3 T => ?_)
    have T := T _ rfl
    refine mw_putI fp_X7_98 (dT d7_token 46 rfl) ?_
    refine mw_aload_n (dT d7_token 47 rfl) rfl (by decide) ?_
    refine mw_aload_n (dT d7_token 48 rfl) rfl (by decide) ?_
    refine mw_getI fl_X7_98 (dT d7_token 49 rfl) ?_
    refine mw_iconst (dT d7_token 50 rfl) ?_
    obtain ⟨z, T1, T2⟩ := T
    refine mw_icmp_eq 108 (dT d7_token 51 rfl) (by decide) ⟨z, by decide⟩ (fun z => ?_) (fun z => ?_)
    · have T := T1 z
      refine mw_aload_n (dT d7_token 54 rfl) rfl (by decide) ?_
      refine mw_getI fl_X7_75 (dT d7_token 55 rfl) ?_
      refine mw_aload_n (dT d7_token 56 rfl) rfl (by decide) ?_
      refine mw_getI fl_X7_85 (dT d7_token 57 rfl) ?_
      refine mw_isub (dT d7_token 58 rfl) ?_
      refine mw_bipush (by decide) (dT d7_token 59 rfl) ?_
      obtain ⟨z, T1, T2⟩ := T
      refine mw_icmp_le 126 (dT d7_token 60 rfl) (by decide) ⟨z, by decide⟩ (fun z => ?_) (fun z => ?_)
      · have T := T1 z
        refine mw_iconst (dT d7_token 63 rfl) ?_
        have T := T _ rfl
        refine mw_putI fp_X7_88 (dT d7_token 64 rfl) ?_
        refine mw_aload_n (dT d7_token 65 rfl) rfl (by decide) ?_
        refine mw_getI fl_X7_88 (dT d7_token 66 rfl) ?_
        refine mw_iconst (dT d7_token 67 rfl) ?_
        obtain ⟨z, T1, T2⟩ := T
        refine mw_icmp_ne 245 (dT d7_token 68 rfl) (by decide) ⟨z, by decide⟩ (fun z => ?_) (fun z => ?_)
        · have T := T1 z
          exact mw_vret rfl (dT d7_token 124 rfl) ⟨rfl, T⟩
        · have T := T2 z
          refine mw_aload_n (dT d7_token 69 rfl) rfl (by decide) ?_
          refine mw_callVV mv_7_nameHere ml_X7_101 (by decide) (dT d7_token 70 rfl) (as := []) rfl rfl T (fun h6 T => ?_)
          refine mw_goto 245 (dT d7_token 71 rfl) (by decide) ?_
          exact mw_vret rfl (dT d7_token 124 rfl) ⟨rfl, T⟩
      · have T := T2 z
        refine mw_iconst (dT d7_token 61 rfl) ?_
        refine mw_goto 127 (dT d7_token 62 rfl) (by decide) ?_
        have T := T _ rfl
        refine mw_putI fp_X7_88 (dT d7_token 64 rfl) ?_
        refine mw_aload_n (dT d7_token 65 rfl) rfl (by decide) ?_
        refine mw_getI fl_X7_88 (dT d7_token 66 rfl) ?_
        refine mw_iconst (dT d7_token 67 rfl) ?_
        obtain ⟨z, T1, T2⟩ := T
        refine mw_icmp_ne 245 (dT d7_token 68 rfl) (by decide) ⟨z, by decide⟩ (fun z => ?_) (fun z => ?_)
        · have T := T1 z
          exact mw_vret rfl (dT d7_token 124 rfl) ⟨rfl, T⟩
        · have T := T2 z
          refine mw_aload_n (dT d7_token 69 rfl) rfl (by decide) ?_
          refine mw_callVV mv_7_nameHere ml_X7_101 (by decide) (dT d7_token 70 rfl) (as := []) rfl rfl T (fun h8 T => ?_)
          refine mw_goto 245 (dT d7_token 71 rfl) (by decide) ?_
          exact mw_vret rfl (dT d7_token 124 rfl) ⟨rfl, T⟩
    · have T := T2 z
      refine mw_iconst (dT d7_token 52 rfl) ?_
      refine mw_goto 127 (dT d7_token 53 rfl) (by decide) ?_
      have T := T _ rfl
      refine mw_putI fp_X7_88 (dT d7_token 64 rfl) ?_
      refine mw_aload_n (dT d7_token 65 rfl) rfl (by decide) ?_
      refine mw_getI fl_X7_88 (dT d7_token 66 rfl) ?_
      refine mw_iconst (dT d7_token 67 rfl) ?_
      obtain ⟨z, T1, T2⟩ := T
      refine mw_icmp_ne 245 (dT d7_token 68 rfl) (by decide) ⟨z, by decide⟩ (fun z => ?_) (fun z => ?_)
      · have T := T1 z
        exact mw_vret rfl (dT d7_token 124 rfl) ⟨rfl, T⟩
      · have T := T2 z
        refine mw_aload_n (dT d7_token 69 rfl) rfl (by decide) ?_
        refine mw_callVV mv_7_nameHere ml_X7_101 (by decide) (dT d7_token 70 rfl) (as := []) rfl rfl T (fun h10 T => ?_)
        refine mw_goto 245 (dT d7_token 71 rfl) (by decide) ?_
        exact mw_vret rfl (dT d7_token 124 rfl) ⟨rfl, T⟩
  · have T := T2 z
    refine mw_aload_n (dT d7_token 36 rfl) rfl (by decide) ?_
    refine mw_dup (dT d7_token 37 rfl) (fun _ z => by cases z) ?_
    refine mw_getI fl_X7_75 (dT d7_token 38 rfl) ?_
    refine mw_iconst (dT d7_token 39 rfl) ?_
    refine mw_iadd (dT d7_token 40 rfl) ?_
    have T := T _ rfl
    refine mw_putI fp_X7_75 (dT d7_token 41 rfl) ?_
    refine mw_goto 64 (dT d7_token 42 rfl) (by decide) ?_
    exact T
theorem s7_token_162 {K : mH → Prop} {x1 : Int} {h : mH} (T : OkI M7_here [mR 30 0] h (fun v1 h1 => OkI M7_isDigit [mI v1] h1 (fun v2 h2 => (mInR v2) ∧ (v2 = 0 → (K h2)) ∧ (¬ v2 = 0 → ((mInR (h2 30 0 17)) ∧ ((h2 30 0 17) ≤ 99999 → (OkI M7_here [mR 30 0] h2 (fun v3 h3 => ∀ h4 : mH, h4 = mSet h3 30 0 17 (((10 * (h2 30 0 17)) + v3) - 48) → (∀ h5 : mH, h5 = mSet h4 30 0 14 ((h4 30 0 14) + 1) → (A7_token_162 K x1 h5))))) ∧ (¬ (h2 30 0 17) ≤ 99999 → (∀ h6 : mH, h6 = mSet h2 30 0 17 (h2 30 0 17) → (∀ h7 : mH, h7 = mSet h6 30 0 14 ((h6 30 0 14) + 1) → (A7_token_162 K x1 h7))))))))) : A7_token_162 K x1 h := by
  refine mw_aload_n (dT d7_token 81 rfl) rfl (by decide) ?_
  refine mw_callVI mv_7_here ml_X7_81 (by decide) (dT d7_token 82 rfl) (as := []) rfl rfl T (fun v1 h1 T => ?_)
  refine mw_callSI mt_7_isDigit ml_X7_104 (by decide) (dT d7_token 83 rfl) (as := [mI _]) rfl rfl T (fun v2 h2 T => ?_)
  obtain ⟨z, T1, T2⟩ := T
  refine mw_if_eq 245 (dT d7_token 84 rfl) (by decide) z (fun z => ?_) (fun z => ?_)
  · have T := T1 z
    exact mw_vret rfl (dT d7_token 124 rfl) ⟨rfl, T⟩
  · have T := T2 z
    refine mw_aload_n (dT d7_token 85 rfl) rfl (by decide) ?_
    refine mw_aload_n (dT d7_token 86 rfl) rfl (by decide) ?_
    refine mw_getI fl_X7_98 (dT d7_token 87 rfl) ?_
    refine mw_ldc kc_X7_107 (dT d7_token 88 rfl) ?_
    obtain ⟨z, T1, T2⟩ := T
    refine mw_icmp_le 189 (dT d7_token 89 rfl) (by decide) ⟨z, by decide⟩ (fun z => ?_) (fun z => ?_)
    · have T := T1 z
      refine mw_bipush (by decide) (dT d7_token 93 rfl) ?_
      refine mw_aload_n (dT d7_token 94 rfl) rfl (by decide) ?_
      refine mw_getI fl_X7_98 (dT d7_token 95 rfl) ?_
      refine mw_imul (dT d7_token 96 rfl) ?_
      refine mw_aload_n (dT d7_token 97 rfl) rfl (by decide) ?_
      refine mw_callVI mv_7_here ml_X7_81 (by decide) (dT d7_token 98 rfl) (as := []) rfl rfl T (fun v3 h3 T => ?_)
      refine mw_iadd (dT d7_token 99 rfl) ?_
      refine mw_bipush (by decide) (dT d7_token 100 rfl) ?_
      refine mw_isub (dT d7_token 101 rfl) ?_
      have T := T _ rfl
      refine mw_putI fp_X7_98 (dT d7_token 102 rfl) ?_
      refine mw_aload_n (dT d7_token 103 rfl) rfl (by decide) ?_
      refine mw_dup (dT d7_token 104 rfl) (fun _ z => by cases z) ?_
      refine mw_getI fl_X7_75 (dT d7_token 105 rfl) ?_
      refine mw_iconst (dT d7_token 106 rfl) ?_
      refine mw_iadd (dT d7_token 107 rfl) ?_
      have T := T _ rfl
      refine mw_putI fp_X7_75 (dT d7_token 108 rfl) ?_
      refine mw_goto 162 (dT d7_token 109 rfl) (by decide) ?_
      exact T
    · have T := T2 z
      refine mw_aload_n (dT d7_token 90 rfl) rfl (by decide) ?_
      refine mw_getI fl_X7_98 (dT d7_token 91 rfl) ?_
      refine mw_goto 204 (dT d7_token 92 rfl) (by decide) ?_
      have T := T _ rfl
      refine mw_putI fp_X7_98 (dT d7_token 102 rfl) ?_
      refine mw_aload_n (dT d7_token 103 rfl) rfl (by decide) ?_
      refine mw_dup (dT d7_token 104 rfl) (fun _ z => by cases z) ?_
      refine mw_getI fl_X7_75 (dT d7_token 105 rfl) ?_
      refine mw_iconst (dT d7_token 106 rfl) ?_
      refine mw_iadd (dT d7_token 107 rfl) ?_
      have T := T _ rfl
      refine mw_putI fp_X7_75 (dT d7_token 108 rfl) ?_
      refine mw_goto 162 (dT d7_token 109 rfl) (by decide) ?_
      exact T
theorem s7_token {K : mH → Prop} {h : mH} (T : A7_token_0 K h) : OkV M7_token [mR 30 0] h K := by
  refine Ok.of rfl (n := 1) rfl ?_
  show At (mPV K) M7_token 0 [mR 30 0, mU] [] h
  exact T
abbrev A7_nameHere_7 (K : mH → Prop) (x1 : Int) (h : mH) : Prop := At (mPV K) M7_nameHere 7 [mR 30 0, mI x1] [] h
theorem s7_nameHere_7 {K : mH → Prop} {x1 : Int} {h : mH} (T : (mInR x1) ∧ (6 ≤ x1 → (K h)) ∧ (¬ 6 ≤ x1 → ((mInR ((h 30 0 15) + x1) ∧ mInR (h 30 0 14)) ∧ ((h 30 0 14) ≤ ((h 30 0 15) + x1) → (∀ h1 : mH, h1 = mSet h 30 0 17 (mOr (mShl (h 30 0 17) 5) 0) → (A7_nameHere_7 K (x1 + 1) h1))) ∧ (¬ (h 30 0 14) ≤ ((h 30 0 15) + x1) → ((0 ≤ ((h 30 0 15) + x1) ∧ ((h 30 0 15) + x1) < 900) ∧ (∀ h2 : mH, h2 = mSet h 30 0 17 (mOr (mShl (h 30 0 17) 5) (((h 31 0 ((h 30 0 15) + x1)) - 97) + 1)) → (A7_nameHere_7 K (x1 + 1) h2))))))) : A7_nameHere_7 K x1 h := by
  refine mw_iload_n (dT d7_nameHere 5 rfl) rfl ?_
  refine mw_bipush (by decide) (dT d7_nameHere 6 rfl) ?_
  obtain ⟨z, T1, T2⟩ := T
  refine mw_icmp_ge 63 (dT d7_nameHere 7 rfl) (by decide) ⟨z, by decide⟩ (fun z => ?_) (fun z => ?_)
  · have T := T1 z
    exact mw_vret rfl (dT d7_nameHere 37 rfl) ⟨rfl, T⟩
  · have T := T2 z
    refine mw_aload_n (dT d7_nameHere 8 rfl) rfl (by decide) ?_
    refine mw_aload_n (dT d7_nameHere 9 rfl) rfl (by decide) ?_
    refine mw_getI fl_X7_98 (dT d7_nameHere 10 rfl) ?_
    refine mw_iconst (dT d7_nameHere 11 rfl) ?_
    refine mw_ishl (dT d7_nameHere 12 rfl) ?_
    refine mw_aload_n (dT d7_nameHere 13 rfl) rfl (by decide) ?_
    refine mw_getI fl_X7_85 (dT d7_nameHere 14 rfl) ?_
    refine mw_iload_n (dT d7_nameHere 15 rfl) rfl ?_
    refine mw_iadd (dT d7_nameHere 16 rfl) ?_
    refine mw_aload_n (dT d7_nameHere 17 rfl) rfl (by decide) ?_
    refine mw_getI fl_X7_75 (dT d7_nameHere 18 rfl) ?_
    obtain ⟨z, T1, T2⟩ := T
    refine mw_icmp_ge 52 (dT d7_nameHere 19 rfl) (by decide) z (fun z => ?_) (fun z => ?_)
    · have T := T1 z
      refine mw_iconst (dT d7_nameHere 32 rfl) ?_
      refine mw_ior (dT d7_nameHere 33 rfl) ?_
      have T := T _ rfl
      refine mw_putI fp_X7_98 (dT d7_nameHere 34 rfl) ?_
      refine mw_iinc (dT d7_nameHere 35 rfl) rfl (by decide) ?_
      refine mw_goto 7 (dT d7_nameHere 36 rfl) (by decide) ?_
      exact T
    · have T := T2 z
      refine mw_aload_n (dT d7_nameHere 20 rfl) rfl (by decide) ?_
      refine mw_getR fl_X7_7 (dT d7_nameHere 21 rfl) ?_
      refine mw_aload_n (dT d7_nameHere 22 rfl) rfl (by decide) ?_
      refine mw_getI fl_X7_85 (dT d7_nameHere 23 rfl) ?_
      refine mw_iload_n (dT d7_nameHere 24 rfl) rfl ?_
      refine mw_iadd (dT d7_nameHere 25 rfl) ?_
      obtain ⟨z, T⟩ := T
      refine mw_iaload ro_31 (dT d7_nameHere 26 rfl) z ?_
      refine mw_bipush (by decide) (dT d7_nameHere 27 rfl) ?_
      refine mw_isub (dT d7_nameHere 28 rfl) ?_
      refine mw_iconst (dT d7_nameHere 29 rfl) ?_
      refine mw_iadd (dT d7_nameHere 30 rfl) ?_
      refine mw_goto 53 (dT d7_nameHere 31 rfl) (by decide) ?_
      refine mw_ior (dT d7_nameHere 33 rfl) ?_
      have T := T _ rfl
      refine mw_putI fp_X7_98 (dT d7_nameHere 34 rfl) ?_
      refine mw_iinc (dT d7_nameHere 35 rfl) rfl (by decide) ?_
      refine mw_goto 7 (dT d7_nameHere 36 rfl) (by decide) ?_
      exact T
theorem s7_nameHere {K : mH → Prop} {h : mH} (T : ∀ h1 : mH, h1 = mSet h 30 0 17 0 → (A7_nameHere_7 K 0 h1)) : OkV M7_nameHere [mR 30 0] h K := by
  refine Ok.of rfl (n := 1) rfl ?_
  show At (mPV K) M7_nameHere 0 [mR 30 0, mU] [] h
  refine mw_aload_n (dT d7_nameHere 0 rfl) rfl (by decide) ?_
  refine mw_iconst (dT d7_nameHere 1 rfl) ?_
  have T := T _ rfl
  refine mw_putI fp_X7_98 (dT d7_nameHere 2 rfl) ?_
  refine mw_iconst (dT d7_nameHere 3 rfl) ?_
  refine mw_istore_n (dT d7_nameHere 4 rfl) (by decide) ?_
  exact T
theorem s7_wrong {K : mH → Prop} {x1 : Int} {h : mH} (T : (mInR (h 30 0 18)) ∧ ((h 30 0 18) = 0 → (∀ h1 : mH, h1 = mSet h 30 0 18 x1 → (∀ h2 : mH, h2 = mSet h1 30 0 19 (h1 30 0 15) → (K h2)))) ∧ (¬ (h 30 0 18) = 0 → (K h))) : OkV M7_wrong [mR 30 0, mI x1] h K := by
  refine Ok.of rfl (n := 0) rfl ?_
  show At (mPV K) M7_wrong 0 [mR 30 0, mI x1] [] h
  refine mw_aload_n (dT d7_wrong 0 rfl) rfl (by decide) ?_
  refine mw_getI fl_X7_119 (dT d7_wrong 1 rfl) ?_
  obtain ⟨z, T1, T2⟩ := T
  refine mw_if_eq 8 (dT d7_wrong 2 rfl) (by decide) z (fun z => ?_) (fun z => ?_)
  · have T := T1 z
    refine mw_aload_n (dT d7_wrong 4 rfl) rfl (by decide) ?_
    refine mw_iload_n (dT d7_wrong 5 rfl) rfl ?_
    have T := T _ rfl
    refine mw_putI fp_X7_119 (dT d7_wrong 6 rfl) ?_
    refine mw_aload_n (dT d7_wrong 7 rfl) rfl (by decide) ?_
    refine mw_aload_n (dT d7_wrong 8 rfl) rfl (by decide) ?_
    refine mw_getI fl_X7_85 (dT d7_wrong 9 rfl) ?_
    have T := T _ rfl
    refine mw_putI fp_X7_122 (dT d7_wrong 10 rfl) ?_
    exact mw_vret rfl (dT d7_wrong 11 rfl) ⟨rfl, T⟩
  · have T := T2 z
    exact mw_vret rfl (dT d7_wrong 3 rfl) ⟨rfl, T⟩
theorem s7_goOn {K : mH → Prop} {h : mH} (T : (mInR (h 30 0 18)) ∧ (¬ (h 30 0 18) = 0 → (K h)) ∧ ((h 30 0 18) = 0 → (OkV M7_token [mR 30 0] h (fun h1 => K h1)))) : OkV M7_goOn [mR 30 0] h K := by
  refine Ok.of rfl (n := 0) rfl ?_
  show At (mPV K) M7_goOn 0 [mR 30 0] [] h
  refine mw_aload_n (dT d7_goOn 0 rfl) rfl (by decide) ?_
  refine mw_getI fl_X7_119 (dT d7_goOn 1 rfl) ?_
  obtain ⟨z, T1, T2⟩ := T
  refine mw_if_ne 11 (dT d7_goOn 2 rfl) (by decide) z (fun z => ?_) (fun z => ?_)
  · have T := T1 z
    exact mw_vret rfl (dT d7_goOn 5 rfl) ⟨rfl, T⟩
  · have T := T2 z
    refine mw_aload_n (dT d7_goOn 3 rfl) rfl (by decide) ?_
    refine mw_callVV mv_7_token ml_X7_125 (by decide) (dT d7_goOn 4 rfl) (as := []) rfl rfl T (fun h1 T => ?_)
    exact mw_vret rfl (dT d7_goOn 5 rfl) ⟨rfl, T⟩
abbrev A7_numeral_46 (K : Int → mH → Prop) (x1 x2 : Int) (h : mH) : Prop := At (mPI K) M7_numeral 46 [mR 30 0, mI x1, mI x2, mU] [] h
theorem s7_numeral_46 {K : Int → mH → Prop} {x1 x2 : Int} {h : mH} (T : (mInR (h 30 0 18)) ∧ (¬ (h 30 0 18) = 0 → (OkV M7_goOn [mR 30 0] h (fun h1 => K x1 h1))) ∧ ((h 30 0 18) = 0 → (OkV M7_goOn [mR 30 0] h (fun h2 => K (h 30 0 17) h2)))) : A7_numeral_46 K x1 x2 h := by
  refine mw_aload_n (dT d7_numeral 24 rfl) rfl (by decide) ?_
  refine mw_getI fl_X7_119 (dT d7_numeral 25 rfl) ?_
  obtain ⟨z, T1, T2⟩ := T
  refine mw_if_ne 60 (dT d7_numeral 26 rfl) (by decide) z (fun z => ?_) (fun z => ?_)
  · have T := T1 z
    refine mw_iload_n (dT d7_numeral 30 rfl) rfl ?_
    refine mw_istore_n (dT d7_numeral 31 rfl) (by decide) ?_
    refine mw_aload_n (dT d7_numeral 32 rfl) rfl (by decide) ?_
    refine mw_callVV mv_7_goOn ml_X7_132 (by decide) (dT d7_numeral 33 rfl) (as := []) rfl rfl T (fun h1 T => ?_)
    refine mw_iload_n (dT d7_numeral 34 rfl) rfl ?_
    exact mw_iret rfl (dT d7_numeral 35 rfl) ⟨_, rfl, T⟩
  · have T := T2 z
    refine mw_aload_n (dT d7_numeral 27 rfl) rfl (by decide) ?_
    refine mw_getI fl_X7_98 (dT d7_numeral 28 rfl) ?_
    refine mw_goto 61 (dT d7_numeral 29 rfl) (by decide) ?_
    refine mw_istore_n (dT d7_numeral 31 rfl) (by decide) ?_
    refine mw_aload_n (dT d7_numeral 32 rfl) rfl (by decide) ?_
    refine mw_callVV mv_7_goOn ml_X7_132 (by decide) (dT d7_numeral 33 rfl) (as := []) rfl rfl T (fun h2 T => ?_)
    refine mw_iload_n (dT d7_numeral 34 rfl) rfl ?_
    exact mw_iret rfl (dT d7_numeral 35 rfl) ⟨_, rfl, T⟩
theorem s7_numeral {K : Int → mH → Prop} {x1 : Int} {x2 : Int} {h : mH} (T : (mInR (h 30 0 18)) ∧ ((h 30 0 18) = 0 → ((mInR (h 30 0 16)) ∧ ((h 30 0 16) = 2 → ((mInR (h 30 0 17) ∧ mInR x1) ∧ ((h 30 0 17) < x1 → (OkV M7_wrong [mR 30 0, mI 2] h (fun h1 => A7_numeral_46 K x1 x2 h1))) ∧ (¬ (h 30 0 17) < x1 → ((mInR (h 30 0 17) ∧ mInR x2) ∧ ((h 30 0 17) ≤ x2 → (A7_numeral_46 K x1 x2 h)) ∧ (¬ (h 30 0 17) ≤ x2 → (OkV M7_wrong [mR 30 0, mI 2] h (fun h2 => A7_numeral_46 K x1 x2 h2))))))) ∧ (¬ (h 30 0 16) = 2 → (OkV M7_wrong [mR 30 0, mI 1] h (fun h3 => A7_numeral_46 K x1 x2 h3))))) ∧ (¬ (h 30 0 18) = 0 → (K x1 h))) : OkI M7_numeral [mR 30 0, mI x1, mI x2] h K := by
  refine Ok.of rfl (n := 1) rfl ?_
  show At (mPI K) M7_numeral 0 [mR 30 0, mI x1, mI x2, mU] [] h
  refine mw_aload_n (dT d7_numeral 0 rfl) rfl (by decide) ?_
  refine mw_getI fl_X7_119 (dT d7_numeral 1 rfl) ?_
  obtain ⟨z, T1, T2⟩ := T
  refine mw_if_eq 9 (dT d7_numeral 2 rfl) (by decide) z (fun z => ?_) (fun z => ?_)
  · have T := T1 z
    refine mw_aload_n (dT d7_numeral 5 rfl) rfl (by decide) ?_
    refine mw_getI fl_X7_88 (dT d7_numeral 6 rfl) ?_
    refine mw_iconst (dT d7_numeral 7 rfl) ?_
    obtain ⟨z, T1, T2⟩ := T
    refine mw_icmp_eq 25 (dT d7_numeral 8 rfl) (by decide) ⟨z, by decide⟩ (fun z => ?_) (fun z => ?_)
    · have T := T1 z
      refine mw_aload_n (dT d7_numeral 13 rfl) rfl (by decide) ?_
      refine mw_getI fl_X7_98 (dT d7_numeral 14 rfl) ?_
      refine mw_iload_n (dT d7_numeral 15 rfl) rfl ?_
      obtain ⟨z, T1, T2⟩ := T
      refine mw_icmp_lt 41 (dT d7_numeral 16 rfl) (by decide) z (fun z => ?_) (fun z => ?_)
      · have T := T1 z
        refine mw_aload_n (dT d7_numeral 21 rfl) rfl (by decide) ?_
        refine mw_iconst (dT d7_numeral 22 rfl) ?_
        refine mw_callVV mv_7_wrong ml_X7_128 (by decide) (dT d7_numeral 23 rfl) (as := [mI _]) rfl rfl T (fun h1 T => ?_)
        exact T
      · have T := T2 z
        refine mw_aload_n (dT d7_numeral 17 rfl) rfl (by decide) ?_
        refine mw_getI fl_X7_98 (dT d7_numeral 18 rfl) ?_
        refine mw_iload_n (dT d7_numeral 19 rfl) rfl ?_
        obtain ⟨z, T1, T2⟩ := T
        refine mw_icmp_le 46 (dT d7_numeral 20 rfl) (by decide) z (fun z => ?_) (fun z => ?_)
        · have T := T1 z
          exact T
        · have T := T2 z
          refine mw_aload_n (dT d7_numeral 21 rfl) rfl (by decide) ?_
          refine mw_iconst (dT d7_numeral 22 rfl) ?_
          refine mw_callVV mv_7_wrong ml_X7_128 (by decide) (dT d7_numeral 23 rfl) (as := [mI _]) rfl rfl T (fun h2 T => ?_)
          exact T
    · have T := T2 z
      refine mw_aload_n (dT d7_numeral 9 rfl) rfl (by decide) ?_
      refine mw_iconst (dT d7_numeral 10 rfl) ?_
      refine mw_callVV mv_7_wrong ml_X7_128 (by decide) (dT d7_numeral 11 rfl) (as := [mI _]) rfl rfl T (fun h3 T => ?_)
      refine mw_goto 46 (dT d7_numeral 12 rfl) (by decide) ?_
      exact T
  · have T := T2 z
    refine mw_iload_n (dT d7_numeral 3 rfl) rfl ?_
    exact mw_iret rfl (dT d7_numeral 4 rfl) ⟨_, rfl, T⟩
theorem s7_reading {K : Int → mH → Prop} {x1 : Int} {h : mH} (T : (0 ≤ (9 + x1) ∧ (9 + x1) < 18) ∧ (K (h 32 0 (9 + x1)) h)) : OkI M7_reading [mR 30 0, mI x1] h K := by
  refine Ok.of rfl (n := 0) rfl ?_
  show At (mPI K) M7_reading 0 [mR 30 0, mI x1] [] h
  refine mw_aload_n (dT d7_reading 0 rfl) rfl (by decide) ?_
  refine mw_getR fl_X7_13 (dT d7_reading 1 rfl) ?_
  refine mw_bipush (by decide) (dT d7_reading 2 rfl) ?_
  refine mw_iload_n (dT d7_reading 3 rfl) rfl ?_
  refine mw_iadd (dT d7_reading 4 rfl) ?_
  obtain ⟨z, T⟩ := T
  refine mw_iaload ro_32 (dT d7_reading 5 rfl) z ?_
  exact mw_iret rfl (dT d7_reading 6 rfl) ⟨_, rfl, T⟩
theorem s7_reads {K : mH → Prop} {x1 : Int} {x2 : Int} {h : mH} (T : (0 ≤ (9 + x1) ∧ (9 + x1) < 18) ∧ (∀ h1 : mH, h1 = mSet h 32 0 (9 + x1) x2 → (K h1))) : OkV M7_reads [mR 30 0, mI x1, mI x2] h K := by
  refine Ok.of rfl (n := 0) rfl ?_
  show At (mPV K) M7_reads 0 [mR 30 0, mI x1, mI x2] [] h
  refine mw_aload_n (dT d7_reads 0 rfl) rfl (by decide) ?_
  refine mw_getR fl_X7_13 (dT d7_reads 1 rfl) ?_
  refine mw_bipush (by decide) (dT d7_reads 2 rfl) ?_
  refine mw_iload_n (dT d7_reads 3 rfl) rfl ?_
  refine mw_iadd (dT d7_reads 4 rfl) ?_
  refine mw_iload_n (dT d7_reads 5 rfl) rfl ?_
  obtain ⟨z, T⟩ := T
  have T := T _ rfl
  refine mw_iastore ro_32 (dT d7_reads 6 rfl) z ?_
  exact mw_vret rfl (dT d7_reads 7 rfl) ⟨rfl, T⟩
abbrev A7_readOnce_14 (K : mH → Prop) (x1 x2 x3 : Int) (h : mH) : Prop := At (mPV K) M7_readOnce 14 [mR 30 0, mI x1, mI x2, mI x3] [] h
theorem s7_readOnce_14 {K : mH → Prop} {x1 x2 x3 : Int} {h : mH} (T : (0 ≤ x1 ∧ x1 < 6) ∧ (∀ h1 : mH, h1 = mSet h 33 0 x1 1 → (OkV M7_goOn [mR 30 0] h1 (fun h2 => OkI M7_numeral [mR 30 0, mI x2, mI x3] h2 (fun v1 h3 => OkV M7_reads [mR 30 0, mI x1, mI v1] h3 (fun h4 => K h4)))))) : A7_readOnce_14 K x1 x2 x3 h := by
  refine mw_aload_n (dT d7_readOnce 8 rfl) rfl (by decide) ?_
  refine mw_getR fl_X7_16 (dT d7_readOnce 9 rfl) ?_
  refine mw_iload_n (dT d7_readOnce 10 rfl) rfl ?_
  refine mw_iconst (dT d7_readOnce 11 rfl) ?_
  obtain ⟨z, T⟩ := T
  have T := T _ rfl
  refine mw_zastore ro_33 (dT d7_readOnce 12 rfl) ⟨z, Or.inr rfl⟩ ?_
  refine mw_aload_n (dT d7_readOnce 13 rfl) rfl (by decide) ?_
  refine mw_callVV mv_7_goOn ml_X7_132 (by decide) (dT d7_readOnce 14 rfl) (as := []) rfl rfl T (fun h2 T => ?_)
  refine mw_aload_n (dT d7_readOnce 15 rfl) rfl (by decide) ?_
  refine mw_iload_n (dT d7_readOnce 16 rfl) rfl ?_
  refine mw_aload_n (dT d7_readOnce 17 rfl) rfl (by decide) ?_
  refine mw_iload_n (dT d7_readOnce 18 rfl) rfl ?_
  refine mw_iload_n (dT d7_readOnce 19 rfl) rfl ?_
  refine mw_callVI mv_7_numeral ml_X7_135 (by decide) (dT d7_readOnce 20 rfl) (as := [mI _, mI _]) rfl rfl T (fun v1 h3 T => ?_)
  refine mw_callVV mv_7_reads ml_X7_139 (by decide) (dT d7_readOnce 21 rfl) (as := [mI _, mI _]) rfl rfl T (fun h4 T => ?_)
  exact mw_vret rfl (dT d7_readOnce 22 rfl) ⟨rfl, T⟩
theorem s7_readOnce {K : mH → Prop} {x1 : Int} {x2 : Int} {x3 : Int} {h : mH} (T : (0 ≤ x1 ∧ x1 < 6) ∧ ((mInR (h 33 0 x1)) ∧ ((h 33 0 x1) = 0 → (A7_readOnce_14 K x1 x2 x3 h)) ∧ (¬ (h 33 0 x1) = 0 → (OkV M7_wrong [mR 30 0, mI 3] h (fun h1 => A7_readOnce_14 K x1 x2 x3 h1))))) : OkV M7_readOnce [mR 30 0, mI x1, mI x2, mI x3] h K := by
  refine Ok.of rfl (n := 0) rfl ?_
  show At (mPV K) M7_readOnce 0 [mR 30 0, mI x1, mI x2, mI x3] [] h
  refine mw_aload_n (dT d7_readOnce 0 rfl) rfl (by decide) ?_
  refine mw_getR fl_X7_16 (dT d7_readOnce 1 rfl) ?_
  refine mw_iload_n (dT d7_readOnce 2 rfl) rfl ?_
  obtain ⟨z, T⟩ := T
  refine mw_zaload ro_33 (dT d7_readOnce 3 rfl) z ?_
  obtain ⟨z, T1, T2⟩ := T
  refine mw_if_eq 14 (dT d7_readOnce 4 rfl) (by decide) z (fun z => ?_) (fun z => ?_)
  · have T := T1 z
    exact T
  · have T := T2 z
    refine mw_aload_n (dT d7_readOnce 5 rfl) rfl (by decide) ?_
    refine mw_iconst (dT d7_readOnce 6 rfl) ?_
    refine mw_callVV mv_7_wrong ml_X7_128 (by decide) (dT d7_readOnce 7 rfl) (as := [mI _]) rfl rfl T (fun h1 T => ?_)
    exact T
abbrev A7_namedAt_3 (K : Int → mH → Prop) (x1 x2 x3 x4 : Int) (h : mH) : Prop := At (mPI K) M7_namedAt 3 [mR 30 0, mI x1, mI x2, mI x3, mI x4] [] h
theorem s7_namedAt_3 {K : Int → mH → Prop} {x1 x2 x3 x4 : Int} {h : mH} (T : (mInR x4 ∧ mInR x2) ∧ (x2 ≤ x4 → (K ((-1)) h)) ∧ (¬ x2 ≤ x4 → ((0 ≤ (x1 + x4) ∧ (x1 + x4) < 8) ∧ ((mInR (h 34 0 (x1 + x4)) ∧ mInR x3) ∧ (¬ (h 34 0 (x1 + x4)) = x3 → (A7_namedAt_3 K x1 x2 x3 (x4 + 1) h)) ∧ ((h 34 0 (x1 + x4)) = x3 → (K x4 h)))))) : A7_namedAt_3 K x1 x2 x3 x4 h := by
  refine mw_iload (dT d7_namedAt 2 rfl) rfl ?_
  refine mw_iload_n (dT d7_namedAt 3 rfl) rfl ?_
  obtain ⟨z, T1, T2⟩ := T
  refine mw_icmp_ge 31 (dT d7_namedAt 4 rfl) (by decide) z (fun z => ?_) (fun z => ?_)
  · have T := T1 z
    refine mw_iconst (dT d7_namedAt 17 rfl) ?_
    exact mw_iret rfl (dT d7_namedAt 18 rfl) ⟨_, rfl, T⟩
  · have T := T2 z
    refine mw_aload_n (dT d7_namedAt 5 rfl) rfl (by decide) ?_
    refine mw_getR fl_X7_20 (dT d7_namedAt 6 rfl) ?_
    refine mw_iload_n (dT d7_namedAt 7 rfl) rfl ?_
    refine mw_iload (dT d7_namedAt 8 rfl) rfl ?_
    refine mw_iadd (dT d7_namedAt 9 rfl) ?_
    obtain ⟨z, T⟩ := T
    refine mw_iaload ro_34 (dT d7_namedAt 10 rfl) z ?_
    refine mw_iload_n (dT d7_namedAt 11 rfl) rfl ?_
    obtain ⟨z, T1, T2⟩ := T
    refine mw_icmp_ne 25 (dT d7_namedAt 12 rfl) (by decide) z (fun z => ?_) (fun z => ?_)
    · have T := T1 z
      refine mw_iinc (dT d7_namedAt 15 rfl) rfl (by decide) ?_
      refine mw_goto 3 (dT d7_namedAt 16 rfl) (by decide) ?_
      exact T
    · have T := T2 z
      refine mw_iload (dT d7_namedAt 13 rfl) rfl ?_
      exact mw_iret rfl (dT d7_namedAt 14 rfl) ⟨_, rfl, T⟩
theorem s7_namedAt {K : Int → mH → Prop} {x1 : Int} {x2 : Int} {x3 : Int} {h : mH} (T : A7_namedAt_3 K x1 x2 x3 0 h) : OkI M7_namedAt [mR 30 0, mI x1, mI x2, mI x3] h K := by
  refine Ok.of rfl (n := 1) rfl ?_
  show At (mPI K) M7_namedAt 0 [mR 30 0, mI x1, mI x2, mI x3, mU] [] h
  refine mw_iconst (dT d7_namedAt 0 rfl) ?_
  refine mw_istore (dT d7_namedAt 1 rfl) (by decide) ?_
  exact T
abbrev A7_readFactor_34 (K : mH → Prop) (x1 : Int) (h : mH) : Prop := At (mPV K) M7_readFactor 34 [mR 30 0, mI x1] [] h
abbrev A7_readFactor_86 (K : mH → Prop) (x1 : Int) (h : mH) : Prop := At (mPV K) M7_readFactor 86 [mR 30 0, mI x1] [] h
theorem s7_readFactor_34 {K : mH → Prop} {x1 : Int} {h : mH} (T : OkV M7_goOn [mR 30 0] h (fun h1 => (mInR (h1 30 0 18)) ∧ ((h1 30 0 18) = 0 → ((mInR (h1 30 0 16)) ∧ ((h1 30 0 16) = 1 → (OkI M7_reading [mR 30 0, mI 7] h1 (fun v1 h2 => OkI M7_namedAt [mR 30 0, mI 4, mI v1, mI (h2 30 0 17)] h2 (fun v2 h3 => (mInR v2) ∧ (v2 = ((-1)) → (A7_readFactor_86 K x1 h3)) ∧ (¬ v2 = ((-1)) → (OkV M7_wrong [mR 30 0, mI 3] h3 (fun h4 => A7_readFactor_86 K x1 h4))))))) ∧ (¬ (h1 30 0 16) = 1 → (OkV M7_wrong [mR 30 0, mI 1] h1 (fun h5 => A7_readFactor_86 K x1 h5))))) ∧ (¬ (h1 30 0 18) = 0 → (K h1)))) : A7_readFactor_34 K x1 h := by
  refine mw_aload_n (dT d7_readFactor 19 rfl) rfl (by decide) ?_
  refine mw_callVV mv_7_goOn ml_X7_132 (by decide) (dT d7_readFactor 20 rfl) (as := []) rfl rfl T (fun h1 T => ?_)
  refine mw_aload_n (dT d7_readFactor 21 rfl) rfl (by decide) ?_
  refine mw_getI fl_X7_119 (dT d7_readFactor 22 rfl) ?_
  obtain ⟨z, T1, T2⟩ := T
  refine mw_if_eq 46 (dT d7_readFactor 23 rfl) (by decide) z (fun z => ?_) (fun z => ?_)
  · have T := T1 z
    refine mw_aload_n (dT d7_readFactor 25 rfl) rfl (by decide) ?_
    refine mw_getI fl_X7_88 (dT d7_readFactor 26 rfl) ?_
    refine mw_iconst (dT d7_readFactor 27 rfl) ?_
    obtain ⟨z, T1, T2⟩ := T
    refine mw_icmp_eq 62 (dT d7_readFactor 28 rfl) (by decide) ⟨z, by decide⟩ (fun z => ?_) (fun z => ?_)
    · have T := T1 z
      refine mw_aload_n (dT d7_readFactor 33 rfl) rfl (by decide) ?_
      refine mw_iconst (dT d7_readFactor 34 rfl) ?_
      refine mw_aload_n (dT d7_readFactor 35 rfl) rfl (by decide) ?_
      refine mw_bipush (by decide) (dT d7_readFactor 36 rfl) ?_
      refine mw_callVI mv_7_reading ml_X7_143 (by decide) (dT d7_readFactor 37 rfl) (as := [mI _]) rfl rfl T (fun v1 h2 T => ?_)
      refine mw_aload_n (dT d7_readFactor 38 rfl) rfl (by decide) ?_
      refine mw_getI fl_X7_98 (dT d7_readFactor 39 rfl) ?_
      refine mw_callVI mv_7_namedAt ml_X7_147 (by decide) (dT d7_readFactor 40 rfl) (as := [mI _, mI _, mI _]) rfl rfl T (fun v2 h3 T => ?_)
      refine mw_iconst (dT d7_readFactor 41 rfl) ?_
      obtain ⟨z, T1, T2⟩ := T
      refine mw_icmp_eq 86 (dT d7_readFactor 42 rfl) (by decide) ⟨z, by decide⟩ (fun z => ?_) (fun z => ?_)
      · have T := T1 z
        exact T
      · have T := T2 z
        refine mw_aload_n (dT d7_readFactor 43 rfl) rfl (by decide) ?_
        refine mw_iconst (dT d7_readFactor 44 rfl) ?_
        refine mw_callVV mv_7_wrong ml_X7_128 (by decide) (dT d7_readFactor 45 rfl) (as := [mI _]) rfl rfl T (fun h4 T => ?_)
        exact T
    · have T := T2 z
      refine mw_aload_n (dT d7_readFactor 29 rfl) rfl (by decide) ?_
      refine mw_iconst (dT d7_readFactor 30 rfl) ?_
      refine mw_callVV mv_7_wrong ml_X7_128 (by decide) (dT d7_readFactor 31 rfl) (as := [mI _]) rfl rfl T (fun h5 T => ?_)
      refine mw_goto 86 (dT d7_readFactor 32 rfl) (by decide) ?_
      exact T
  · have T := T2 z
    exact mw_vret rfl (dT d7_readFactor 24 rfl) ⟨rfl, T⟩
theorem s7_readFactor_86 {K : mH → Prop} {x1 : Int} {h : mH} (T : (mInR (h 30 0 18)) ∧ ((h 30 0 18) = 0 → ((0 ≤ x1 ∧ x1 < 8) ∧ (∀ h1 : mH, h1 = mSet h 34 0 x1 (h 30 0 17) → (OkV M7_token [mR 30 0] h1 (fun h2 => OkI M7_numeral [mR 30 0, mI 1, mI 6] h2 (fun v1 h3 => (0 ≤ x1 ∧ x1 < 8) ∧ (∀ h4 : mH, h4 = mSet h3 35 0 x1 v1 → ((0 ≤ x1 ∧ x1 < 8) ∧ (∀ h5 : mH, h5 = mSet h4 36 0 x1 1000 → ((0 ≤ x1 ∧ x1 < 8) ∧ (∀ h6 : mH, h6 = mSet h5 37 0 x1 50000 → ((0 ≤ x1 ∧ x1 < 8) ∧ (∀ h7 : mH, h7 = mSet h6 38 0 x1 0 → ((0 ≤ x1 ∧ x1 < 8) ∧ (∀ h8 : mH, h8 = mSet h7 39 0 x1 0 → (OkI M7_reading [mR 30 0, mI 7] h8 (fun v2 h9 => OkV M7_reads [mR 30 0, mI 7, mI (v2 + 1)] h9 (fun h10 => K h10)))))))))))))))))) ∧ (¬ (h 30 0 18) = 0 → (K h))) : A7_readFactor_86 K x1 h := by
  refine mw_aload_n (dT d7_readFactor 46 rfl) rfl (by decide) ?_
  refine mw_getI fl_X7_119 (dT d7_readFactor 47 rfl) ?_
  obtain ⟨z, T1, T2⟩ := T
  refine mw_if_eq 94 (dT d7_readFactor 48 rfl) (by decide) z (fun z => ?_) (fun z => ?_)
  · have T := T1 z
    refine mw_aload_n (dT d7_readFactor 50 rfl) rfl (by decide) ?_
    refine mw_getR fl_X7_20 (dT d7_readFactor 51 rfl) ?_
    refine mw_iload_n (dT d7_readFactor 52 rfl) rfl ?_
    refine mw_aload_n (dT d7_readFactor 53 rfl) rfl (by decide) ?_
    refine mw_getI fl_X7_98 (dT d7_readFactor 54 rfl) ?_
    obtain ⟨z, T⟩ := T
    have T := T _ rfl
    refine mw_iastore ro_34 (dT d7_readFactor 55 rfl) z ?_
    refine mw_aload_n (dT d7_readFactor 56 rfl) rfl (by decide) ?_
    refine mw_callVV mv_7_token ml_X7_125 (by decide) (dT d7_readFactor 57 rfl) (as := []) rfl rfl T (fun h2 T => ?_)
    refine mw_aload_n (dT d7_readFactor 58 rfl) rfl (by decide) ?_
    refine mw_getR fl_X7_23 (dT d7_readFactor 59 rfl) ?_
    refine mw_iload_n (dT d7_readFactor 60 rfl) rfl ?_
    refine mw_aload_n (dT d7_readFactor 61 rfl) rfl (by decide) ?_
    refine mw_iconst (dT d7_readFactor 62 rfl) ?_
    refine mw_bipush (by decide) (dT d7_readFactor 63 rfl) ?_
    refine mw_callVI mv_7_numeral ml_X7_135 (by decide) (dT d7_readFactor 64 rfl) (as := [mI _, mI _]) rfl rfl T (fun v1 h3 T => ?_)
    obtain ⟨z, T⟩ := T
    have T := T _ rfl
    refine mw_iastore ro_35 (dT d7_readFactor 65 rfl) z ?_
    refine mw_aload_n (dT d7_readFactor 66 rfl) rfl (by decide) ?_
    refine mw_getR fl_X7_26 (dT d7_readFactor 67 rfl) ?_
    refine mw_iload_n (dT d7_readFactor 68 rfl) rfl ?_
    refine mw_sipush (by decide) (dT d7_readFactor 69 rfl) ?_
    obtain ⟨z, T⟩ := T
    have T := T _ rfl
    refine mw_iastore ro_36 (dT d7_readFactor 70 rfl) z ?_
    refine mw_aload_n (dT d7_readFactor 71 rfl) rfl (by decide) ?_
    refine mw_getR fl_X7_29 (dT d7_readFactor 72 rfl) ?_
    refine mw_iload_n (dT d7_readFactor 73 rfl) rfl ?_
    refine mw_ldc kc_X7_151 (dT d7_readFactor 74 rfl) ?_
    obtain ⟨z, T⟩ := T
    have T := T _ rfl
    refine mw_iastore ro_37 (dT d7_readFactor 75 rfl) z ?_
    refine mw_aload_n (dT d7_readFactor 76 rfl) rfl (by decide) ?_
    refine mw_getR fl_X7_32 (dT d7_readFactor 77 rfl) ?_
    refine mw_iload_n (dT d7_readFactor 78 rfl) rfl ?_
    refine mw_iconst (dT d7_readFactor 79 rfl) ?_
    obtain ⟨z, T⟩ := T
    have T := T _ rfl
    refine mw_zastore ro_38 (dT d7_readFactor 80 rfl) ⟨z, Or.inl rfl⟩ ?_
    refine mw_aload_n (dT d7_readFactor 81 rfl) rfl (by decide) ?_
    refine mw_getR fl_X7_35 (dT d7_readFactor 82 rfl) ?_
    refine mw_iload_n (dT d7_readFactor 83 rfl) rfl ?_
    refine mw_iconst (dT d7_readFactor 84 rfl) ?_
    obtain ⟨z, T⟩ := T
    have T := T _ rfl
    refine mw_iastore ro_39 (dT d7_readFactor 85 rfl) z ?_
    refine mw_aload_n (dT d7_readFactor 86 rfl) rfl (by decide) ?_
    refine mw_bipush (by decide) (dT d7_readFactor 87 rfl) ?_
    refine mw_aload_n (dT d7_readFactor 88 rfl) rfl (by decide) ?_
    refine mw_bipush (by decide) (dT d7_readFactor 89 rfl) ?_
    refine mw_callVI mv_7_reading ml_X7_143 (by decide) (dT d7_readFactor 90 rfl) (as := [mI _]) rfl rfl T (fun v2 h9 T => ?_)
    refine mw_iconst (dT d7_readFactor 91 rfl) ?_
    refine mw_iadd (dT d7_readFactor 92 rfl) ?_
    refine mw_callVV mv_7_reads ml_X7_139 (by decide) (dT d7_readFactor 93 rfl) (as := [mI _, mI _]) rfl rfl T (fun h10 T => ?_)
    exact mw_vret rfl (dT d7_readFactor 94 rfl) ⟨rfl, T⟩
  · have T := T2 z
    exact mw_vret rfl (dT d7_readFactor 49 rfl) ⟨rfl, T⟩
theorem s7_readFactor {K : mH → Prop} {h : mH} (T : OkI M7_reading [mR 30 0, mI 8] h (fun v1 h1 => (mInR v1) ∧ (v1 ≤ 0 → (OkI M7_reading [mR 30 0, mI 7] h1 (fun v2 h2 => (mInR (4 + v2)) ∧ (¬ (4 + v2) = 8 → (A7_readFactor_34 K (4 + v2) h2)) ∧ ((4 + v2) = 8 → (OkV M7_wrong [mR 30 0, mI 2] h2 (fun h3 => A7_readFactor_34 K (4 + v2) h3)))))) ∧ (¬ v1 ≤ 0 → (OkV M7_wrong [mR 30 0, mI 1] h1 (fun h4 => OkI M7_reading [mR 30 0, mI 7] h4 (fun v3 h5 => (mInR (4 + v3)) ∧ (¬ (4 + v3) = 8 → (A7_readFactor_34 K (4 + v3) h5)) ∧ ((4 + v3) = 8 → (OkV M7_wrong [mR 30 0, mI 2] h5 (fun h6 => A7_readFactor_34 K (4 + v3) h6))))))))) : OkV M7_readFactor [mR 30 0] h K := by
  refine Ok.of rfl (n := 1) rfl ?_
  show At (mPV K) M7_readFactor 0 [mR 30 0, mU] [] h
  refine mw_aload_n (dT d7_readFactor 0 rfl) rfl (by decide) ?_
  refine mw_bipush (by decide) (dT d7_readFactor 1 rfl) ?_
  refine mw_callVI mv_7_reading ml_X7_143 (by decide) (dT d7_readFactor 2 rfl) (as := [mI _]) rfl rfl T (fun v1 h1 T => ?_)
  obtain ⟨z, T1, T2⟩ := T
  refine mw_if_le 14 (dT d7_readFactor 3 rfl) (by decide) z (fun z => ?_) (fun z => ?_)
  · have T := T1 z
    refine mw_iconst (dT d7_readFactor 7 rfl) ?_
    refine mw_aload_n (dT d7_readFactor 8 rfl) rfl (by decide) ?_
    refine mw_bipush (by decide) (dT d7_readFactor 9 rfl) ?_
    refine mw_callVI mv_7_reading ml_X7_143 (by decide) (dT d7_readFactor 10 rfl) (as := [mI _]) rfl rfl T (fun v2 h2 T => ?_)
    refine mw_iadd (dT d7_readFactor 11 rfl) ?_
    refine mw_istore_n (dT d7_readFactor 12 rfl) (by decide) ?_
    refine mw_iload_n (dT d7_readFactor 13 rfl) rfl ?_
    refine mw_bipush (by decide) (dT d7_readFactor 14 rfl) ?_
    obtain ⟨z, T1, T2⟩ := T
    refine mw_icmp_ne 34 (dT d7_readFactor 15 rfl) (by decide) ⟨z, by decide⟩ (fun z => ?_) (fun z => ?_)
    · have T := T1 z
      exact T
    · have T := T2 z
      refine mw_aload_n (dT d7_readFactor 16 rfl) rfl (by decide) ?_
      refine mw_iconst (dT d7_readFactor 17 rfl) ?_
      refine mw_callVV mv_7_wrong ml_X7_128 (by decide) (dT d7_readFactor 18 rfl) (as := [mI _]) rfl rfl T (fun h3 T => ?_)
      exact T
  · have T := T2 z
    refine mw_aload_n (dT d7_readFactor 4 rfl) rfl (by decide) ?_
    refine mw_iconst (dT d7_readFactor 5 rfl) ?_
    refine mw_callVV mv_7_wrong ml_X7_128 (by decide) (dT d7_readFactor 6 rfl) (as := [mI _]) rfl rfl T (fun h4 T => ?_)
    refine mw_iconst (dT d7_readFactor 7 rfl) ?_
    refine mw_aload_n (dT d7_readFactor 8 rfl) rfl (by decide) ?_
    refine mw_bipush (by decide) (dT d7_readFactor 9 rfl) ?_
    refine mw_callVI mv_7_reading ml_X7_143 (by decide) (dT d7_readFactor 10 rfl) (as := [mI _]) rfl rfl T (fun v3 h5 T => ?_)
    refine mw_iadd (dT d7_readFactor 11 rfl) ?_
    refine mw_istore_n (dT d7_readFactor 12 rfl) (by decide) ?_
    refine mw_iload_n (dT d7_readFactor 13 rfl) rfl ?_
    refine mw_bipush (by decide) (dT d7_readFactor 14 rfl) ?_
    obtain ⟨z, T1, T2⟩ := T
    refine mw_icmp_ne 34 (dT d7_readFactor 15 rfl) (by decide) ⟨z, by decide⟩ (fun z => ?_) (fun z => ?_)
    · have T := T1 z
      exact T
    · have T := T2 z
      refine mw_aload_n (dT d7_readFactor 16 rfl) rfl (by decide) ?_
      refine mw_iconst (dT d7_readFactor 17 rfl) ?_
      refine mw_callVV mv_7_wrong ml_X7_128 (by decide) (dT d7_readFactor 18 rfl) (as := [mI _]) rfl rfl T (fun h6 T => ?_)
      exact T
abbrev A7_factorHere_26 (K : Int → mH → Prop) (h : mH) : Prop := At (mPI K) M7_factorHere 26 [mR 30 0, mU] [] h
abbrev A7_factorHere_52 (K : Int → mH → Prop) (s0 : Int) (h : mH) : Prop := At (mPI K) M7_factorHere 52 [mR 30 0, mU] [mI s0] h
theorem s7_factorHere_26 {K : Int → mH → Prop} {h : mH} (T : (mInR (h 30 0 18)) ∧ (¬ (h 30 0 18) = 0 → (A7_factorHere_52 K 0 h)) ∧ ((h 30 0 18) = 0 → (OkI M7_reading [mR 30 0, mI 7] h (fun v1 h1 => OkI M7_namedAt [mR 30 0, mI 4, mI v1, mI (h1 30 0 17)] h1 (fun v2 h2 => A7_factorHere_52 K v2 h2))))) : A7_factorHere_26 K  h := by
  refine mw_aload_n (dT d7_factorHere 14 rfl) rfl (by decide) ?_
  refine mw_getI fl_X7_119 (dT d7_factorHere 15 rfl) ?_
  obtain ⟨z, T1, T2⟩ := T
  refine mw_if_ne 51 (dT d7_factorHere 16 rfl) (by decide) z (fun z => ?_) (fun z => ?_)
  · have T := T1 z
    refine mw_iconst (dT d7_factorHere 26 rfl) ?_
    exact T
  · have T := T2 z
    refine mw_aload_n (dT d7_factorHere 17 rfl) rfl (by decide) ?_
    refine mw_iconst (dT d7_factorHere 18 rfl) ?_
    refine mw_aload_n (dT d7_factorHere 19 rfl) rfl (by decide) ?_
    refine mw_bipush (by decide) (dT d7_factorHere 20 rfl) ?_
    refine mw_callVI mv_7_reading ml_X7_143 (by decide) (dT d7_factorHere 21 rfl) (as := [mI _]) rfl rfl T (fun v1 h1 T => ?_)
    refine mw_aload_n (dT d7_factorHere 22 rfl) rfl (by decide) ?_
    refine mw_getI fl_X7_98 (dT d7_factorHere 23 rfl) ?_
    refine mw_callVI mv_7_namedAt ml_X7_147 (by decide) (dT d7_factorHere 24 rfl) (as := [mI _, mI _, mI _]) rfl rfl T (fun v2 h2 T => ?_)
    refine mw_goto 52 (dT d7_factorHere 25 rfl) (by decide) ?_
    exact T
theorem s7_factorHere_52 {K : Int → mH → Prop} {s0 : Int} {h : mH} (T : (mInR s0) ∧ (¬ s0 = ((-1)) → ((mInR s0) ∧ (¬ s0 = ((-1)) → (K s0 h)) ∧ (s0 = ((-1)) → (K 0 h)))) ∧ (s0 = ((-1)) → (OkV M7_wrong [mR 30 0, mI 4] h (fun h1 => (mInR s0) ∧ (¬ s0 = ((-1)) → (K s0 h1)) ∧ (s0 = ((-1)) → (K 0 h1)))))) : A7_factorHere_52 K s0 h := by
  refine mw_istore_n (dT d7_factorHere 27 rfl) (by decide) ?_
  refine mw_iload_n (dT d7_factorHere 28 rfl) rfl ?_
  refine mw_iconst (dT d7_factorHere 29 rfl) ?_
  obtain ⟨z, T1, T2⟩ := T
  refine mw_icmp_ne 63 (dT d7_factorHere 30 rfl) (by decide) ⟨z, by decide⟩ (fun z => ?_) (fun z => ?_)
  · have T := T1 z
    refine mw_iload_n (dT d7_factorHere 34 rfl) rfl ?_
    refine mw_iconst (dT d7_factorHere 35 rfl) ?_
    obtain ⟨z, T1, T2⟩ := T
    refine mw_icmp_ne 72 (dT d7_factorHere 36 rfl) (by decide) ⟨z, by decide⟩ (fun z => ?_) (fun z => ?_)
    · have T := T1 z
      refine mw_iload_n (dT d7_factorHere 39 rfl) rfl ?_
      exact mw_iret rfl (dT d7_factorHere 40 rfl) ⟨_, rfl, T⟩
    · have T := T2 z
      refine mw_iconst (dT d7_factorHere 37 rfl) ?_
      refine mw_goto 73 (dT d7_factorHere 38 rfl) (by decide) ?_
      exact mw_iret rfl (dT d7_factorHere 40 rfl) ⟨_, rfl, T⟩
  · have T := T2 z
    refine mw_aload_n (dT d7_factorHere 31 rfl) rfl (by decide) ?_
    refine mw_iconst (dT d7_factorHere 32 rfl) ?_
    refine mw_callVV mv_7_wrong ml_X7_128 (by decide) (dT d7_factorHere 33 rfl) (as := [mI _]) rfl rfl T (fun h1 T => ?_)
    refine mw_iload_n (dT d7_factorHere 34 rfl) rfl ?_
    refine mw_iconst (dT d7_factorHere 35 rfl) ?_
    obtain ⟨z, T1, T2⟩ := T
    refine mw_icmp_ne 72 (dT d7_factorHere 36 rfl) (by decide) ⟨z, by decide⟩ (fun z => ?_) (fun z => ?_)
    · have T := T1 z
      refine mw_iload_n (dT d7_factorHere 39 rfl) rfl ?_
      exact mw_iret rfl (dT d7_factorHere 40 rfl) ⟨_, rfl, T⟩
    · have T := T2 z
      refine mw_iconst (dT d7_factorHere 37 rfl) ?_
      refine mw_goto 73 (dT d7_factorHere 38 rfl) (by decide) ?_
      exact mw_iret rfl (dT d7_factorHere 40 rfl) ⟨_, rfl, T⟩
theorem s7_factorHere {K : Int → mH → Prop} {h : mH} (T : OkV M7_goOn [mR 30 0] h (fun h1 => (mInR (h1 30 0 18)) ∧ ((h1 30 0 18) = 0 → ((mInR (h1 30 0 16)) ∧ ((h1 30 0 16) = 1 → (A7_factorHere_26 K h1)) ∧ (¬ (h1 30 0 16) = 1 → (OkV M7_wrong [mR 30 0, mI 1] h1 (fun h2 => A7_factorHere_26 K h2))))) ∧ (¬ (h1 30 0 18) = 0 → (K 0 h1)))) : OkI M7_factorHere [mR 30 0] h K := by
  refine Ok.of rfl (n := 1) rfl ?_
  show At (mPI K) M7_factorHere 0 [mR 30 0, mU] [] h
  refine mw_aload_n (dT d7_factorHere 0 rfl) rfl (by decide) ?_
  refine mw_callVV mv_7_goOn ml_X7_132 (by decide) (dT d7_factorHere 1 rfl) (as := []) rfl rfl T (fun h1 T => ?_)
  refine mw_aload_n (dT d7_factorHere 2 rfl) rfl (by decide) ?_
  refine mw_getI fl_X7_119 (dT d7_factorHere 3 rfl) ?_
  obtain ⟨z, T1, T2⟩ := T
  refine mw_if_eq 13 (dT d7_factorHere 4 rfl) (by decide) z (fun z => ?_) (fun z => ?_)
  · have T := T1 z
    refine mw_aload_n (dT d7_factorHere 7 rfl) rfl (by decide) ?_
    refine mw_getI fl_X7_88 (dT d7_factorHere 8 rfl) ?_
    refine mw_iconst (dT d7_factorHere 9 rfl) ?_
    obtain ⟨z, T1, T2⟩ := T
    refine mw_icmp_eq 26 (dT d7_factorHere 10 rfl) (by decide) ⟨z, by decide⟩ (fun z => ?_) (fun z => ?_)
    · have T := T1 z
      exact T
    · have T := T2 z
      refine mw_aload_n (dT d7_factorHere 11 rfl) rfl (by decide) ?_
      refine mw_iconst (dT d7_factorHere 12 rfl) ?_
      refine mw_callVV mv_7_wrong ml_X7_128 (by decide) (dT d7_factorHere 13 rfl) (as := [mI _]) rfl rfl T (fun h2 T => ?_)
      exact T
  · have T := T2 z
    refine mw_iconst (dT d7_factorHere 5 rfl) ?_
    exact mw_iret rfl (dT d7_factorHere 6 rfl) ⟨_, rfl, T⟩
abbrev A7_readBand_28 (K : mH → Prop) (x1 : Int) (h : mH) : Prop := At (mPV K) M7_readBand 28 [mR 30 0, mI x1, mU, mU] [] h
theorem s7_readBand_28 {K : mH → Prop} {x1 : Int} {h : mH} (T : OkV M7_goOn [mR 30 0] h (fun h1 => OkI M7_numeral [mR 30 0, mI 1, mI 10000] h1 (fun v1 h2 => OkI M7_numeral [mR 30 0, mI 10000, mI 99999] h2 (fun v2 h3 => (mInR (h3 30 0 18)) ∧ ((h3 30 0 18) = 0 → ((0 ≤ x1 ∧ x1 < 8) ∧ (∀ h4 : mH, h4 = mSet h3 38 0 x1 1 → ((0 ≤ x1 ∧ x1 < 8) ∧ (∀ h5 : mH, h5 = mSet h4 36 0 x1 v1 → ((0 ≤ x1 ∧ x1 < 8) ∧ (∀ h6 : mH, h6 = mSet h5 37 0 x1 v2 → (K h6)))))))) ∧ (¬ (h3 30 0 18) = 0 → (K h3)))))) : A7_readBand_28 K x1 h := by
  refine mw_aload_n (dT d7_readBand 16 rfl) rfl (by decide) ?_
  refine mw_callVV mv_7_goOn ml_X7_132 (by decide) (dT d7_readBand 17 rfl) (as := []) rfl rfl T (fun h1 T => ?_)
  refine mw_aload_n (dT d7_readBand 18 rfl) rfl (by decide) ?_
  refine mw_iconst (dT d7_readBand 19 rfl) ?_
  refine mw_sipush (by decide) (dT d7_readBand 20 rfl) ?_
  refine mw_callVI mv_7_numeral ml_X7_135 (by decide) (dT d7_readBand 21 rfl) (as := [mI _, mI _]) rfl rfl T (fun v1 h2 T => ?_)
  refine mw_istore_n (dT d7_readBand 22 rfl) (by decide) ?_
  refine mw_aload_n (dT d7_readBand 23 rfl) rfl (by decide) ?_
  refine mw_sipush (by decide) (dT d7_readBand 24 rfl) ?_
  refine mw_ldc kc_X7_107 (dT d7_readBand 25 rfl) ?_
  refine mw_callVI mv_7_numeral ml_X7_135 (by decide) (dT d7_readBand 26 rfl) (as := [mI _, mI _]) rfl rfl T (fun v2 h3 T => ?_)
  refine mw_istore_n (dT d7_readBand 27 rfl) (by decide) ?_
  refine mw_aload_n (dT d7_readBand 28 rfl) rfl (by decide) ?_
  refine mw_getI fl_X7_119 (dT d7_readBand 29 rfl) ?_
  obtain ⟨z, T1, T2⟩ := T
  refine mw_if_eq 59 (dT d7_readBand 30 rfl) (by decide) z (fun z => ?_) (fun z => ?_)
  · have T := T1 z
    refine mw_aload_n (dT d7_readBand 32 rfl) rfl (by decide) ?_
    refine mw_getR fl_X7_32 (dT d7_readBand 33 rfl) ?_
    refine mw_iload_n (dT d7_readBand 34 rfl) rfl ?_
    refine mw_iconst (dT d7_readBand 35 rfl) ?_
    obtain ⟨z, T⟩ := T
    have T := T _ rfl
    refine mw_zastore ro_38 (dT d7_readBand 36 rfl) ⟨z, Or.inr rfl⟩ ?_
    refine mw_aload_n (dT d7_readBand 37 rfl) rfl (by decide) ?_
    refine mw_getR fl_X7_26 (dT d7_readBand 38 rfl) ?_
    refine mw_iload_n (dT d7_readBand 39 rfl) rfl ?_
    refine mw_iload_n (dT d7_readBand 40 rfl) rfl ?_
    obtain ⟨z, T⟩ := T
    have T := T _ rfl
    refine mw_iastore ro_36 (dT d7_readBand 41 rfl) z ?_
    refine mw_aload_n (dT d7_readBand 42 rfl) rfl (by decide) ?_
    refine mw_getR fl_X7_29 (dT d7_readBand 43 rfl) ?_
    refine mw_iload_n (dT d7_readBand 44 rfl) rfl ?_
    refine mw_iload_n (dT d7_readBand 45 rfl) rfl ?_
    obtain ⟨z, T⟩ := T
    have T := T _ rfl
    refine mw_iastore ro_37 (dT d7_readBand 46 rfl) z ?_
    exact mw_vret rfl (dT d7_readBand 47 rfl) ⟨rfl, T⟩
  · have T := T2 z
    exact mw_vret rfl (dT d7_readBand 31 rfl) ⟨rfl, T⟩
theorem s7_readBand {K : mH → Prop} {h : mH} (T : OkI M7_factorHere [mR 30 0] h (fun v1 h1 => (mInR (h1 30 0 18)) ∧ (¬ (h1 30 0 18) = 0 → (A7_readBand_28 K (4 + v1) h1)) ∧ ((h1 30 0 18) = 0 → ((0 ≤ (4 + v1) ∧ (4 + v1) < 8) ∧ ((mInR (h1 38 0 (4 + v1))) ∧ ((h1 38 0 (4 + v1)) = 0 → (A7_readBand_28 K (4 + v1) h1)) ∧ (¬ (h1 38 0 (4 + v1)) = 0 → (OkV M7_wrong [mR 30 0, mI 3] h1 (fun h2 => A7_readBand_28 K (4 + v1) h2)))))))) : OkV M7_readBand [mR 30 0] h K := by
  refine Ok.of rfl (n := 3) rfl ?_
  show At (mPV K) M7_readBand 0 [mR 30 0, mU, mU, mU] [] h
  refine mw_iconst (dT d7_readBand 0 rfl) ?_
  refine mw_aload_n (dT d7_readBand 1 rfl) rfl (by decide) ?_
  refine mw_callVI mv_7_factorHere ml_X7_152 (by decide) (dT d7_readBand 2 rfl) (as := []) rfl rfl T (fun v1 h1 T => ?_)
  refine mw_iadd (dT d7_readBand 3 rfl) ?_
  refine mw_istore_n (dT d7_readBand 4 rfl) (by decide) ?_
  refine mw_aload_n (dT d7_readBand 5 rfl) rfl (by decide) ?_
  refine mw_getI fl_X7_119 (dT d7_readBand 6 rfl) ?_
  obtain ⟨z, T1, T2⟩ := T
  refine mw_if_ne 28 (dT d7_readBand 7 rfl) (by decide) z (fun z => ?_) (fun z => ?_)
  · have T := T1 z
    exact T
  · have T := T2 z
    refine mw_aload_n (dT d7_readBand 8 rfl) rfl (by decide) ?_
    refine mw_getR fl_X7_32 (dT d7_readBand 9 rfl) ?_
    refine mw_iload_n (dT d7_readBand 10 rfl) rfl ?_
    obtain ⟨z, T⟩ := T
    refine mw_zaload ro_38 (dT d7_readBand 11 rfl) z ?_
    obtain ⟨z, T1, T2⟩ := T
    refine mw_if_eq 28 (dT d7_readBand 12 rfl) (by decide) z (fun z => ?_) (fun z => ?_)
    · have T := T1 z
      exact T
    · have T := T2 z
      refine mw_aload_n (dT d7_readBand 13 rfl) rfl (by decide) ?_
      refine mw_iconst (dT d7_readBand 14 rfl) ?_
      refine mw_callVV mv_7_wrong ml_X7_128 (by decide) (dT d7_readBand 15 rfl) (as := [mI _]) rfl rfl T (fun h2 T => ?_)
      exact T
abbrev A7_readJoin_80 (K : mH → Prop) (x1 : Int) (h : mH) : Prop := At (mPV K) M7_readJoin 80 [mR 30 0, mI x1] [] h
theorem s7_readJoin_80 {K : mH → Prop} {x1 : Int} {h : mH} (T : (mInR (h 30 0 18)) ∧ ((h 30 0 18) = 0 → ((0 ≤ x1 ∧ x1 < 8) ∧ ((0 ≤ x1 ∧ x1 < 8) ∧ (∀ h1 : mH, h1 = mSet h 39 0 x1 (mOr (h 39 0 x1) (mShl 1 (h 30 0 17))) → (OkV M7_token [mR 30 0] h1 (fun h2 => K h2)))))) ∧ (¬ (h 30 0 18) = 0 → (K h))) : A7_readJoin_80 K x1 h := by
  refine mw_aload_n (dT d7_readJoin 46 rfl) rfl (by decide) ?_
  refine mw_getI fl_X7_119 (dT d7_readJoin 47 rfl) ?_
  obtain ⟨z, T1, T2⟩ := T
  refine mw_if_eq 88 (dT d7_readJoin 48 rfl) (by decide) z (fun z => ?_) (fun z => ?_)
  · have T := T1 z
    refine mw_aload_n (dT d7_readJoin 50 rfl) rfl (by decide) ?_
    refine mw_getR fl_X7_35 (dT d7_readJoin 51 rfl) ?_
    refine mw_iload_n (dT d7_readJoin 52 rfl) rfl ?_
    refine mw_dup2 (dT d7_readJoin 53 rfl) (fun _ z => by cases z) (fun _ z => by cases z) ?_
    obtain ⟨z, T⟩ := T
    refine mw_iaload ro_39 (dT d7_readJoin 54 rfl) z ?_
    refine mw_iconst (dT d7_readJoin 55 rfl) ?_
    refine mw_aload_n (dT d7_readJoin 56 rfl) rfl (by decide) ?_
    refine mw_getI fl_X7_98 (dT d7_readJoin 57 rfl) ?_
    refine mw_ishl (dT d7_readJoin 58 rfl) ?_
    refine mw_ior (dT d7_readJoin 59 rfl) ?_
    obtain ⟨z, T⟩ := T
    have T := T _ rfl
    refine mw_iastore ro_39 (dT d7_readJoin 60 rfl) z ?_
    refine mw_aload_n (dT d7_readJoin 61 rfl) rfl (by decide) ?_
    refine mw_callVV mv_7_token ml_X7_125 (by decide) (dT d7_readJoin 62 rfl) (as := []) rfl rfl T (fun h2 T => ?_)
    exact mw_vret rfl (dT d7_readJoin 63 rfl) ⟨rfl, T⟩
  · have T := T2 z
    exact mw_vret rfl (dT d7_readJoin 49 rfl) ⟨rfl, T⟩
theorem s7_readJoin {K : mH → Prop} {h : mH} (T : OkI M7_factorHere [mR 30 0] h (fun v1 h1 => OkV M7_goOn [mR 30 0] h1 (fun h2 => (mInR (h2 30 0 18)) ∧ ((h2 30 0 18) = 0 → ((mInR (h2 30 0 16)) ∧ ((h2 30 0 16) = 2 → ((0 ≤ (4 + v1) ∧ (4 + v1) < 8) ∧ ((mInR (h2 30 0 17) ∧ mInR ((h2 35 0 (4 + v1)) - 1)) ∧ ((h2 30 0 17) < ((h2 35 0 (4 + v1)) - 1) → ((0 ≤ (4 + v1) ∧ (4 + v1) < 8) ∧ ((mInR (mAnd (mShr (h2 39 0 (4 + v1)) (h2 30 0 17)) 1)) ∧ (¬ (mAnd (mShr (h2 39 0 (4 + v1)) (h2 30 0 17)) 1) = 1 → (A7_readJoin_80 K (4 + v1) h2)) ∧ ((mAnd (mShr (h2 39 0 (4 + v1)) (h2 30 0 17)) 1) = 1 → (OkV M7_wrong [mR 30 0, mI 3] h2 (fun h3 => A7_readJoin_80 K (4 + v1) h3)))))) ∧ (¬ (h2 30 0 17) < ((h2 35 0 (4 + v1)) - 1) → (OkV M7_wrong [mR 30 0, mI 2] h2 (fun h4 => A7_readJoin_80 K (4 + v1) h4)))))) ∧ (¬ (h2 30 0 16) = 2 → (OkV M7_wrong [mR 30 0, mI 1] h2 (fun h5 => A7_readJoin_80 K (4 + v1) h5))))) ∧ (¬ (h2 30 0 18) = 0 → (K h2))))) : OkV M7_readJoin [mR 30 0] h K := by
  refine Ok.of rfl (n := 1) rfl ?_
  show At (mPV K) M7_readJoin 0 [mR 30 0, mU] [] h
  refine mw_iconst (dT d7_readJoin 0 rfl) ?_
  refine mw_aload_n (dT d7_readJoin 1 rfl) rfl (by decide) ?_
  refine mw_callVI mv_7_factorHere ml_X7_152 (by decide) (dT d7_readJoin 2 rfl) (as := []) rfl rfl T (fun v1 h1 T => ?_)
  refine mw_iadd (dT d7_readJoin 3 rfl) ?_
  refine mw_istore_n (dT d7_readJoin 4 rfl) (by decide) ?_
  refine mw_aload_n (dT d7_readJoin 5 rfl) rfl (by decide) ?_
  refine mw_callVV mv_7_goOn ml_X7_132 (by decide) (dT d7_readJoin 6 rfl) (as := []) rfl rfl T (fun h2 T => ?_)
  refine mw_aload_n (dT d7_readJoin 7 rfl) rfl (by decide) ?_
  refine mw_getI fl_X7_119 (dT d7_readJoin 8 rfl) ?_
  obtain ⟨z, T1, T2⟩ := T
  refine mw_if_eq 19 (dT d7_readJoin 9 rfl) (by decide) z (fun z => ?_) (fun z => ?_)
  · have T := T1 z
    refine mw_aload_n (dT d7_readJoin 11 rfl) rfl (by decide) ?_
    refine mw_getI fl_X7_88 (dT d7_readJoin 12 rfl) ?_
    refine mw_iconst (dT d7_readJoin 13 rfl) ?_
    obtain ⟨z, T1, T2⟩ := T
    refine mw_icmp_eq 35 (dT d7_readJoin 14 rfl) (by decide) ⟨z, by decide⟩ (fun z => ?_) (fun z => ?_)
    · have T := T1 z
      refine mw_aload_n (dT d7_readJoin 19 rfl) rfl (by decide) ?_
      refine mw_getI fl_X7_98 (dT d7_readJoin 20 rfl) ?_
      refine mw_aload_n (dT d7_readJoin 21 rfl) rfl (by decide) ?_
      refine mw_getR fl_X7_23 (dT d7_readJoin 22 rfl) ?_
      refine mw_iload_n (dT d7_readJoin 23 rfl) rfl ?_
      obtain ⟨z, T⟩ := T
      refine mw_iaload ro_35 (dT d7_readJoin 24 rfl) z ?_
      refine mw_iconst (dT d7_readJoin 25 rfl) ?_
      refine mw_isub (dT d7_readJoin 26 rfl) ?_
      obtain ⟨z, T1, T2⟩ := T
      refine mw_icmp_lt 58 (dT d7_readJoin 27 rfl) (by decide) z (fun z => ?_) (fun z => ?_)
      · have T := T1 z
        refine mw_aload_n (dT d7_readJoin 32 rfl) rfl (by decide) ?_
        refine mw_getR fl_X7_35 (dT d7_readJoin 33 rfl) ?_
        refine mw_iload_n (dT d7_readJoin 34 rfl) rfl ?_
        obtain ⟨z, T⟩ := T
        refine mw_iaload ro_39 (dT d7_readJoin 35 rfl) z ?_
        refine mw_aload_n (dT d7_readJoin 36 rfl) rfl (by decide) ?_
        refine mw_getI fl_X7_98 (dT d7_readJoin 37 rfl) ?_
        refine mw_ishr (dT d7_readJoin 38 rfl) ?_
        refine mw_iconst (dT d7_readJoin 39 rfl) ?_
        refine mw_iand (dT d7_readJoin 40 rfl) ?_
        refine mw_iconst (dT d7_readJoin 41 rfl) ?_
        obtain ⟨z, T1, T2⟩ := T
        refine mw_icmp_ne 80 (dT d7_readJoin 42 rfl) (by decide) ⟨z, by decide⟩ (fun z => ?_) (fun z => ?_)
        · have T := T1 z
          exact T
        · have T := T2 z
          refine mw_aload_n (dT d7_readJoin 43 rfl) rfl (by decide) ?_
          refine mw_iconst (dT d7_readJoin 44 rfl) ?_
          refine mw_callVV mv_7_wrong ml_X7_128 (by decide) (dT d7_readJoin 45 rfl) (as := [mI _]) rfl rfl T (fun h3 T => ?_)
          exact T
      · have T := T2 z
        refine mw_aload_n (dT d7_readJoin 28 rfl) rfl (by decide) ?_
        refine mw_iconst (dT d7_readJoin 29 rfl) ?_
        refine mw_callVV mv_7_wrong ml_X7_128 (by decide) (dT d7_readJoin 30 rfl) (as := [mI _]) rfl rfl T (fun h4 T => ?_)
        refine mw_goto 80 (dT d7_readJoin 31 rfl) (by decide) ?_
        exact T
    · have T := T2 z
      refine mw_aload_n (dT d7_readJoin 15 rfl) rfl (by decide) ?_
      refine mw_iconst (dT d7_readJoin 16 rfl) ?_
      refine mw_callVV mv_7_wrong ml_X7_128 (by decide) (dT d7_readJoin 17 rfl) (as := [mI _]) rfl rfl T (fun h5 T => ?_)
      refine mw_goto 80 (dT d7_readJoin 18 rfl) (by decide) ?_
      exact T
  · have T := T2 z
    exact mw_vret rfl (dT d7_readJoin 10 rfl) ⟨rfl, T⟩
abbrev A7_readRisk_26 (K : mH → Prop) (x1 : Int) (h : mH) : Prop := At (mPV K) M7_readRisk 26 [mR 30 0, mI x1, mU, mU, mU, mU] [] h
abbrev A7_readRisk_94 (K : mH → Prop) (x1 x2 x3 x4 x5 : Int) (h : mH) : Prop := At (mPV K) M7_readRisk 94 [mR 30 0, mI x1, mI x2, mI x3, mI x4, mI x5] [] h
theorem s7_readRisk_26 {K : mH → Prop} {x1 : Int} {h : mH} (T : OkV M7_goOn [mR 30 0] h (fun h1 => OkI M7_numeral [mR 30 0, mI 1, mI 99] h1 (fun v1 h2 => OkI M7_numeral [mR 30 0, mI 0, mI 99999] h2 (fun v2 h3 => OkI M7_numeral [mR 30 0, mI 1, mI 99999] h3 (fun v3 h4 => (mInR (h4 30 0 18)) ∧ ((h4 30 0 18) = 0 → ((0 ≤ (x1 + 0) ∧ (x1 + 0) < 280) ∧ (∀ h5 : mH, h5 = mSet h4 40 0 (x1 + 0) v1 → ((0 ≤ (x1 + 1) ∧ (x1 + 1) < 280) ∧ (∀ h6 : mH, h6 = mSet h5 40 0 (x1 + 1) v2 → ((0 ≤ (x1 + 2) ∧ (x1 + 2) < 280) ∧ (∀ h7 : mH, h7 = mSet h6 40 0 (x1 + 2) v3 → (A7_readRisk_94 K x1 v1 v2 v3 0 h7)))))))) ∧ (¬ (h4 30 0 18) = 0 → (K h4))))))) : A7_readRisk_26 K x1 h := by
  refine mw_aload_n (dT d7_readRisk 14 rfl) rfl (by decide) ?_
  refine mw_callVV mv_7_goOn ml_X7_132 (by decide) (dT d7_readRisk 15 rfl) (as := []) rfl rfl T (fun h1 T => ?_)
  refine mw_aload_n (dT d7_readRisk 16 rfl) rfl (by decide) ?_
  refine mw_iconst (dT d7_readRisk 17 rfl) ?_
  refine mw_bipush (by decide) (dT d7_readRisk 18 rfl) ?_
  refine mw_callVI mv_7_numeral ml_X7_135 (by decide) (dT d7_readRisk 19 rfl) (as := [mI _, mI _]) rfl rfl T (fun v1 h2 T => ?_)
  refine mw_istore_n (dT d7_readRisk 20 rfl) (by decide) ?_
  refine mw_aload_n (dT d7_readRisk 21 rfl) rfl (by decide) ?_
  refine mw_iconst (dT d7_readRisk 22 rfl) ?_
  refine mw_ldc kc_X7_107 (dT d7_readRisk 23 rfl) ?_
  refine mw_callVI mv_7_numeral ml_X7_135 (by decide) (dT d7_readRisk 24 rfl) (as := [mI _, mI _]) rfl rfl T (fun v2 h3 T => ?_)
  refine mw_istore_n (dT d7_readRisk 25 rfl) (by decide) ?_
  refine mw_aload_n (dT d7_readRisk 26 rfl) rfl (by decide) ?_
  refine mw_iconst (dT d7_readRisk 27 rfl) ?_
  refine mw_ldc kc_X7_107 (dT d7_readRisk 28 rfl) ?_
  refine mw_callVI mv_7_numeral ml_X7_135 (by decide) (dT d7_readRisk 29 rfl) (as := [mI _, mI _]) rfl rfl T (fun v3 h4 T => ?_)
  refine mw_istore (dT d7_readRisk 30 rfl) (by decide) ?_
  refine mw_aload_n (dT d7_readRisk 31 rfl) rfl (by decide) ?_
  refine mw_getI fl_X7_119 (dT d7_readRisk 32 rfl) ?_
  obtain ⟨z, T1, T2⟩ := T
  refine mw_if_eq 63 (dT d7_readRisk 33 rfl) (by decide) z (fun z => ?_) (fun z => ?_)
  · have T := T1 z
    refine mw_aload_n (dT d7_readRisk 35 rfl) rfl (by decide) ?_
    refine mw_getR fl_X7_38 (dT d7_readRisk 36 rfl) ?_
    refine mw_iload_n (dT d7_readRisk 37 rfl) rfl ?_
    refine mw_iconst (dT d7_readRisk 38 rfl) ?_
    refine mw_iadd (dT d7_readRisk 39 rfl) ?_
    refine mw_iload_n (dT d7_readRisk 40 rfl) rfl ?_
    obtain ⟨z, T⟩ := T
    have T := T _ rfl
    refine mw_iastore ro_40 (dT d7_readRisk 41 rfl) z ?_
    refine mw_aload_n (dT d7_readRisk 42 rfl) rfl (by decide) ?_
    refine mw_getR fl_X7_38 (dT d7_readRisk 43 rfl) ?_
    refine mw_iload_n (dT d7_readRisk 44 rfl) rfl ?_
    refine mw_iconst (dT d7_readRisk 45 rfl) ?_
    refine mw_iadd (dT d7_readRisk 46 rfl) ?_
    refine mw_iload_n (dT d7_readRisk 47 rfl) rfl ?_
    obtain ⟨z, T⟩ := T
    have T := T _ rfl
    refine mw_iastore ro_40 (dT d7_readRisk 48 rfl) z ?_
    refine mw_aload_n (dT d7_readRisk 49 rfl) rfl (by decide) ?_
    refine mw_getR fl_X7_38 (dT d7_readRisk 50 rfl) ?_
    refine mw_iload_n (dT d7_readRisk 51 rfl) rfl ?_
    refine mw_iconst (dT d7_readRisk 52 rfl) ?_
    refine mw_iadd (dT d7_readRisk 53 rfl) ?_
    refine mw_iload (dT d7_readRisk 54 rfl) rfl ?_
    obtain ⟨z, T⟩ := T
    have T := T _ rfl
    refine mw_iastore ro_40 (dT d7_readRisk 55 rfl) z ?_
    refine mw_iconst (dT d7_readRisk 56 rfl) ?_
    refine mw_istore (dT d7_readRisk 57 rfl) (by decide) ?_
    exact T
  · have T := T2 z
    exact mw_vret rfl (dT d7_readRisk 34 rfl) ⟨rfl, T⟩
theorem s7_readRisk_94 {K : mH → Prop} {x1 x2 x3 x4 x5 : Int} {h : mH} (T : (mInR x5) ∧ (4 ≤ x5 → (OkI M7_reading [mR 30 0, mI 8] h (fun v1 h1 => OkV M7_reads [mR 30 0, mI 8, mI (v1 + 1)] h1 (fun h2 => K h2)))) ∧ (¬ 4 ≤ x5 → (OkI M7_reading [mR 30 0, mI 7] h (fun v2 h3 => (mInR x5 ∧ mInR v2) ∧ (v2 ≤ x5 → ((0 ≤ ((x1 + 3) + x5) ∧ ((x1 + 3) + x5) < 280) ∧ (∀ h4 : mH, h4 = mSet h3 40 0 ((x1 + 3) + x5) 0 → (A7_readRisk_94 K x1 x2 x3 x4 (x5 + 1) h4)))) ∧ (¬ v2 ≤ x5 → ((0 ≤ (4 + x5) ∧ (4 + x5) < 8) ∧ (OkI M7_numeral [mR 30 0, mI 0, mI ((h3 35 0 (4 + x5)) - 1)] h3 (fun v3 h5 => (0 ≤ ((x1 + 3) + x5) ∧ ((x1 + 3) + x5) < 280) ∧ (∀ h6 : mH, h6 = mSet h5 40 0 ((x1 + 3) + x5) v3 → (A7_readRisk_94 K x1 x2 x3 x4 (x5 + 1) h6)))))))))) : A7_readRisk_94 K x1 x2 x3 x4 x5 h := by
  refine mw_iload (dT d7_readRisk 58 rfl) rfl ?_
  refine mw_iconst (dT d7_readRisk 59 rfl) ?_
  obtain ⟨z, T1, T2⟩ := T
  refine mw_icmp_ge 148 (dT d7_readRisk 60 rfl) (by decide) ⟨z, by decide⟩ (fun z => ?_) (fun z => ?_)
  · have T := T1 z
    refine mw_aload_n (dT d7_readRisk 89 rfl) rfl (by decide) ?_
    refine mw_bipush (by decide) (dT d7_readRisk 90 rfl) ?_
    refine mw_aload_n (dT d7_readRisk 91 rfl) rfl (by decide) ?_
    refine mw_bipush (by decide) (dT d7_readRisk 92 rfl) ?_
    refine mw_callVI mv_7_reading ml_X7_143 (by decide) (dT d7_readRisk 93 rfl) (as := [mI _]) rfl rfl T (fun v1 h1 T => ?_)
    refine mw_iconst (dT d7_readRisk 94 rfl) ?_
    refine mw_iadd (dT d7_readRisk 95 rfl) ?_
    refine mw_callVV mv_7_reads ml_X7_139 (by decide) (dT d7_readRisk 96 rfl) (as := [mI _, mI _]) rfl rfl T (fun h2 T => ?_)
    exact mw_vret rfl (dT d7_readRisk 97 rfl) ⟨rfl, T⟩
  · have T := T2 z
    refine mw_aload_n (dT d7_readRisk 61 rfl) rfl (by decide) ?_
    refine mw_getR fl_X7_38 (dT d7_readRisk 62 rfl) ?_
    refine mw_iload_n (dT d7_readRisk 63 rfl) rfl ?_
    refine mw_iconst (dT d7_readRisk 64 rfl) ?_
    refine mw_iadd (dT d7_readRisk 65 rfl) ?_
    refine mw_iload (dT d7_readRisk 66 rfl) rfl ?_
    refine mw_iadd (dT d7_readRisk 67 rfl) ?_
    refine mw_iload (dT d7_readRisk 68 rfl) rfl ?_
    refine mw_aload_n (dT d7_readRisk 69 rfl) rfl (by decide) ?_
    refine mw_bipush (by decide) (dT d7_readRisk 70 rfl) ?_
    refine mw_callVI mv_7_reading ml_X7_143 (by decide) (dT d7_readRisk 71 rfl) (as := [mI _]) rfl rfl T (fun v2 h3 T => ?_)
    obtain ⟨z, T1, T2⟩ := T
    refine mw_icmp_ge 140 (dT d7_readRisk 72 rfl) (by decide) z (fun z => ?_) (fun z => ?_)
    · have T := T1 z
      refine mw_iconst (dT d7_readRisk 85 rfl) ?_
      obtain ⟨z, T⟩ := T
      have T := T _ rfl
      refine mw_iastore ro_40 (dT d7_readRisk 86 rfl) z ?_
      refine mw_iinc (dT d7_readRisk 87 rfl) rfl (by decide) ?_
      refine mw_goto 94 (dT d7_readRisk 88 rfl) (by decide) ?_
      exact T
    · have T := T2 z
      refine mw_aload_n (dT d7_readRisk 73 rfl) rfl (by decide) ?_
      refine mw_iconst (dT d7_readRisk 74 rfl) ?_
      refine mw_aload_n (dT d7_readRisk 75 rfl) rfl (by decide) ?_
      refine mw_getR fl_X7_23 (dT d7_readRisk 76 rfl) ?_
      refine mw_iconst (dT d7_readRisk 77 rfl) ?_
      refine mw_iload (dT d7_readRisk 78 rfl) rfl ?_
      refine mw_iadd (dT d7_readRisk 79 rfl) ?_
      obtain ⟨z, T⟩ := T
      refine mw_iaload ro_35 (dT d7_readRisk 80 rfl) z ?_
      refine mw_iconst (dT d7_readRisk 81 rfl) ?_
      refine mw_isub (dT d7_readRisk 82 rfl) ?_
      refine mw_callVI mv_7_numeral ml_X7_135 (by decide) (dT d7_readRisk 83 rfl) (as := [mI _, mI _]) rfl rfl T (fun v3 h5 T => ?_)
      refine mw_goto 141 (dT d7_readRisk 84 rfl) (by decide) ?_
      obtain ⟨z, T⟩ := T
      have T := T _ rfl
      refine mw_iastore ro_40 (dT d7_readRisk 86 rfl) z ?_
      refine mw_iinc (dT d7_readRisk 87 rfl) rfl (by decide) ?_
      refine mw_goto 94 (dT d7_readRisk 88 rfl) (by decide) ?_
      exact T
theorem s7_readRisk {K : mH → Prop} {h : mH} (T : OkI M7_reading [mR 30 0, mI 8] h (fun v1 h1 => OkI M7_reading [mR 30 0, mI 8] h1 (fun v2 h2 => (mInR v2) ∧ (¬ v2 = 40 → (A7_readRisk_26 K (7 * v1) h2)) ∧ (v2 = 40 → (OkV M7_wrong [mR 30 0, mI 2] h2 (fun h3 => A7_readRisk_26 K (7 * v1) h3)))))) : OkV M7_readRisk [mR 30 0] h K := by
  refine Ok.of rfl (n := 5) rfl ?_
  show At (mPV K) M7_readRisk 0 [mR 30 0, mU, mU, mU, mU, mU] [] h
  refine mw_bipush (by decide) (dT d7_readRisk 0 rfl) ?_
  refine mw_aload_n (dT d7_readRisk 1 rfl) rfl (by decide) ?_
  refine mw_bipush (by decide) (dT d7_readRisk 2 rfl) ?_
  refine mw_callVI mv_7_reading ml_X7_143 (by decide) (dT d7_readRisk 3 rfl) (as := [mI _]) rfl rfl T (fun v1 h1 T => ?_)
  refine mw_imul (dT d7_readRisk 4 rfl) ?_
  refine mw_istore_n (dT d7_readRisk 5 rfl) (by decide) ?_
  refine mw_aload_n (dT d7_readRisk 6 rfl) rfl (by decide) ?_
  refine mw_bipush (by decide) (dT d7_readRisk 7 rfl) ?_
  refine mw_callVI mv_7_reading ml_X7_143 (by decide) (dT d7_readRisk 8 rfl) (as := [mI _]) rfl rfl T (fun v2 h2 T => ?_)
  refine mw_bipush (by decide) (dT d7_readRisk 9 rfl) ?_
  obtain ⟨z, T1, T2⟩ := T
  refine mw_icmp_ne 26 (dT d7_readRisk 10 rfl) (by decide) ⟨z, by decide⟩ (fun z => ?_) (fun z => ?_)
  · have T := T1 z
    exact T
  · have T := T2 z
    refine mw_aload_n (dT d7_readRisk 11 rfl) rfl (by decide) ?_
    refine mw_iconst (dT d7_readRisk 12 rfl) ?_
    refine mw_callVV mv_7_wrong ml_X7_128 (by decide) (dT d7_readRisk 13 rfl) (as := [mI _]) rfl rfl T (fun h3 T => ?_)
    exact T
theorem s7_readFleet {K : mH → Prop} {h : mH} (T : OkV M7_readOnce [mR 30 0, mI 5, mI 1, mI 99] h (fun h1 => OkI M7_numeral [mR 30 0, mI 0, mI 500] h1 (fun v1 h2 => OkV M7_reads [mR 30 0, mI 6, mI v1] h2 (fun h3 => K h3)))) : OkV M7_readFleet [mR 30 0] h K := by
  refine Ok.of rfl (n := 0) rfl ?_
  show At (mPV K) M7_readFleet 0 [mR 30 0] [] h
  refine mw_aload_n (dT d7_readFleet 0 rfl) rfl (by decide) ?_
  refine mw_iconst (dT d7_readFleet 1 rfl) ?_
  refine mw_iconst (dT d7_readFleet 2 rfl) ?_
  refine mw_bipush (by decide) (dT d7_readFleet 3 rfl) ?_
  refine mw_callVV mv_7_readOnce ml_X7_155 (by decide) (dT d7_readFleet 4 rfl) (as := [mI _, mI _, mI _]) rfl rfl T (fun h1 T => ?_)
  refine mw_aload_n (dT d7_readFleet 5 rfl) rfl (by decide) ?_
  refine mw_bipush (by decide) (dT d7_readFleet 6 rfl) ?_
  refine mw_aload_n (dT d7_readFleet 7 rfl) rfl (by decide) ?_
  refine mw_iconst (dT d7_readFleet 8 rfl) ?_
  refine mw_sipush (by decide) (dT d7_readFleet 9 rfl) ?_
  refine mw_callVI mv_7_numeral ml_X7_135 (by decide) (dT d7_readFleet 10 rfl) (as := [mI _, mI _]) rfl rfl T (fun v1 h2 T => ?_)
  refine mw_callVV mv_7_reads ml_X7_139 (by decide) (dT d7_readFleet 11 rfl) (as := [mI _, mI _]) rfl rfl T (fun h3 T => ?_)
  exact mw_vret rfl (dT d7_readFleet 12 rfl) ⟨rfl, T⟩
abbrev A7_readLine_158 (K : mH → Prop) (h : mH) : Prop := At (mPV K) M7_readLine 158 [mR 30 0] [] h
theorem s7_readLine_158 {K : mH → Prop} {h : mH} (T : (mInR (h 30 0 18)) ∧ (¬ (h 30 0 18) = 0 → (OkV M7_goOn [mR 30 0] h (fun h1 => ∀ h2 : mH, h2 = mSet h1 30 0 12 ((h1 30 0 12) + 1) → (K h2)))) ∧ ((h 30 0 18) = 0 → ((mInR (h 30 0 16)) ∧ ((h 30 0 16) = 3 → (OkV M7_goOn [mR 30 0] h (fun h3 => ∀ h4 : mH, h4 = mSet h3 30 0 12 ((h3 30 0 12) + 1) → (K h4)))) ∧ (¬ (h 30 0 16) = 3 → (OkV M7_wrong [mR 30 0, mI 1] h (fun h5 => OkV M7_goOn [mR 30 0] h5 (fun h6 => ∀ h7 : mH, h7 = mSet h6 30 0 12 ((h6 30 0 12) + 1) → (K h7)))))))) : A7_readLine_158 K  h := by
  refine mw_aload_n (dT d7_readLine 75 rfl) rfl (by decide) ?_
  refine mw_getI fl_X7_119 (dT d7_readLine 76 rfl) ?_
  obtain ⟨z, T1, T2⟩ := T
  refine mw_if_ne 178 (dT d7_readLine 77 rfl) (by decide) z (fun z => ?_) (fun z => ?_)
  · have T := T1 z
    refine mw_aload_n (dT d7_readLine 85 rfl) rfl (by decide) ?_
    refine mw_callVV mv_7_goOn ml_X7_132 (by decide) (dT d7_readLine 86 rfl) (as := []) rfl rfl T (fun h1 T => ?_)
    refine mw_aload_n (dT d7_readLine 87 rfl) rfl (by decide) ?_
    refine mw_dup (dT d7_readLine 88 rfl) (fun _ z => by cases z) ?_
    refine mw_getI fl_X7_174 (dT d7_readLine 89 rfl) ?_
    refine mw_iconst (dT d7_readLine 90 rfl) ?_
    refine mw_iadd (dT d7_readLine 91 rfl) ?_
    have T := T _ rfl
    refine mw_putI fp_X7_174 (dT d7_readLine 92 rfl) ?_
    exact mw_vret rfl (dT d7_readLine 93 rfl) ⟨rfl, T⟩
  · have T := T2 z
    refine mw_aload_n (dT d7_readLine 78 rfl) rfl (by decide) ?_
    refine mw_getI fl_X7_88 (dT d7_readLine 79 rfl) ?_
    refine mw_iconst (dT d7_readLine 80 rfl) ?_
    obtain ⟨z, T1, T2⟩ := T
    refine mw_icmp_eq 178 (dT d7_readLine 81 rfl) (by decide) ⟨z, by decide⟩ (fun z => ?_) (fun z => ?_)
    · have T := T1 z
      refine mw_aload_n (dT d7_readLine 85 rfl) rfl (by decide) ?_
      refine mw_callVV mv_7_goOn ml_X7_132 (by decide) (dT d7_readLine 86 rfl) (as := []) rfl rfl T (fun h3 T => ?_)
      refine mw_aload_n (dT d7_readLine 87 rfl) rfl (by decide) ?_
      refine mw_dup (dT d7_readLine 88 rfl) (fun _ z => by cases z) ?_
      refine mw_getI fl_X7_174 (dT d7_readLine 89 rfl) ?_
      refine mw_iconst (dT d7_readLine 90 rfl) ?_
      refine mw_iadd (dT d7_readLine 91 rfl) ?_
      have T := T _ rfl
      refine mw_putI fp_X7_174 (dT d7_readLine 92 rfl) ?_
      exact mw_vret rfl (dT d7_readLine 93 rfl) ⟨rfl, T⟩
    · have T := T2 z
      refine mw_aload_n (dT d7_readLine 82 rfl) rfl (by decide) ?_
      refine mw_iconst (dT d7_readLine 83 rfl) ?_
      refine mw_callVV mv_7_wrong ml_X7_128 (by decide) (dT d7_readLine 84 rfl) (as := [mI _]) rfl rfl T (fun h5 T => ?_)
      refine mw_aload_n (dT d7_readLine 85 rfl) rfl (by decide) ?_
      refine mw_callVV mv_7_goOn ml_X7_132 (by decide) (dT d7_readLine 86 rfl) (as := []) rfl rfl T (fun h6 T => ?_)
      refine mw_aload_n (dT d7_readLine 87 rfl) rfl (by decide) ?_
      refine mw_dup (dT d7_readLine 88 rfl) (fun _ z => by cases z) ?_
      refine mw_getI fl_X7_174 (dT d7_readLine 89 rfl) ?_
      refine mw_iconst (dT d7_readLine 90 rfl) ?_
      refine mw_iadd (dT d7_readLine 91 rfl) ?_
      have T := T _ rfl
      refine mw_putI fp_X7_174 (dT d7_readLine 92 rfl) ?_
      exact mw_vret rfl (dT d7_readLine 93 rfl) ⟨rfl, T⟩
theorem s7_readLine {K : mH → Prop} {h : mH} (T : (mInR (h 30 0 16)) ∧ ((h 30 0 16) = 0 → ((mInR (h 30 0 17)) ∧ (¬ (h 30 0 17) = 0 → ((mInR (h 30 0 17)) ∧ ((h 30 0 17) = 1 → (OkV M7_readOnce [mR 30 0, mI (h 30 0 17), mI 0, mI 999] h (fun h1 => A7_readLine_158 K h1))) ∧ (¬ (h 30 0 17) = 1 → ((mInR (h 30 0 17)) ∧ ((h 30 0 17) = 2 → (OkV M7_readOnce [mR 30 0, mI (h 30 0 17), mI 0, mI 999] h (fun h2 => A7_readLine_158 K h2))) ∧ (¬ (h 30 0 17) = 2 → ((mInR (h 30 0 17)) ∧ (¬ (h 30 0 17) = 4 → ((mInR (h 30 0 17)) ∧ (¬ (h 30 0 17) = 3 → ((mInR (h 30 0 17)) ∧ (¬ (h 30 0 17) = 5 → ((mInR (h 30 0 17)) ∧ (¬ (h 30 0 17) = 6 → ((mInR (h 30 0 17)) ∧ (¬ (h 30 0 17) = 7 → ((mInR (h 30 0 17)) ∧ (¬ (h 30 0 17) = 8 → (OkV M7_readRisk [mR 30 0] h (fun h3 => A7_readLine_158 K h3))) ∧ ((h 30 0 17) = 8 → (OkV M7_readJoin [mR 30 0] h (fun h4 => A7_readLine_158 K h4))))) ∧ ((h 30 0 17) = 7 → (OkV M7_readBand [mR 30 0] h (fun h5 => A7_readLine_158 K h5))))) ∧ ((h 30 0 17) = 6 → (OkV M7_readFactor [mR 30 0] h (fun h6 => A7_readLine_158 K h6))))) ∧ ((h 30 0 17) = 5 → (OkV M7_readFleet [mR 30 0] h (fun h7 => A7_readLine_158 K h7))))) ∧ ((h 30 0 17) = 3 → (OkV M7_readOnce [mR 30 0, mI 3, mI 0, mI 99999] h (fun h8 => A7_readLine_158 K h8))))) ∧ ((h 30 0 17) = 4 → (OkV M7_readOnce [mR 30 0, mI (h 30 0 17), mI 0, mI 999] h (fun h9 => A7_readLine_158 K h9))))))))) ∧ ((h 30 0 17) = 0 → (OkV M7_readOnce [mR 30 0, mI 0, mI 1, mI 99999] h (fun h10 => A7_readLine_158 K h10))))) ∧ (¬ (h 30 0 16) = 0 → (OkV M7_wrong [mR 30 0, mI 1] h (fun h11 => A7_readLine_158 K h11)))) : OkV M7_readLine [mR 30 0] h K := by
  refine Ok.of rfl (n := 0) rfl ?_
  show At (mPV K) M7_readLine 0 [mR 30 0] [] h
  refine mw_aload_n (dT d7_readLine 0 rfl) rfl (by decide) ?_
  refine mw_getI fl_X7_88 (dT d7_readLine 1 rfl) ?_
  obtain ⟨z, T1, T2⟩ := T
  refine mw_if_eq 15 (dT d7_readLine 2 rfl) (by decide) z (fun z => ?_) (fun z => ?_)
  · have T := T1 z
    refine mw_aload_n (dT d7_readLine 7 rfl) rfl (by decide) ?_
    refine mw_getI fl_X7_98 (dT d7_readLine 8 rfl) ?_
    obtain ⟨z, T1, T2⟩ := T
    refine mw_if_ne 33 (dT d7_readLine 9 rfl) (by decide) z (fun z => ?_) (fun z => ?_)
    · have T := T1 z
      refine mw_aload_n (dT d7_readLine 16 rfl) rfl (by decide) ?_
      refine mw_getI fl_X7_98 (dT d7_readLine 17 rfl) ?_
      refine mw_iconst (dT d7_readLine 18 rfl) ?_
      obtain ⟨z, T1, T2⟩ := T
      refine mw_icmp_eq 57 (dT d7_readLine 19 rfl) (by decide) ⟨z, by decide⟩ (fun z => ?_) (fun z => ?_)
      · have T := T1 z
        refine mw_aload_n (dT d7_readLine 28 rfl) rfl (by decide) ?_
        refine mw_aload_n (dT d7_readLine 29 rfl) rfl (by decide) ?_
        refine mw_getI fl_X7_98 (dT d7_readLine 30 rfl) ?_
        refine mw_iconst (dT d7_readLine 31 rfl) ?_
        refine mw_sipush (by decide) (dT d7_readLine 32 rfl) ?_
        refine mw_callVV mv_7_readOnce ml_X7_155 (by decide) (dT d7_readLine 33 rfl) (as := [mI _, mI _, mI _]) rfl rfl T (fun h1 T => ?_)
        refine mw_goto 158 (dT d7_readLine 34 rfl) (by decide) ?_
        exact T
      · have T := T2 z
        refine mw_aload_n (dT d7_readLine 20 rfl) rfl (by decide) ?_
        refine mw_getI fl_X7_98 (dT d7_readLine 21 rfl) ?_
        refine mw_iconst (dT d7_readLine 22 rfl) ?_
        obtain ⟨z, T1, T2⟩ := T
        refine mw_icmp_eq 57 (dT d7_readLine 23 rfl) (by decide) ⟨z, by decide⟩ (fun z => ?_) (fun z => ?_)
        · have T := T1 z
          refine mw_aload_n (dT d7_readLine 28 rfl) rfl (by decide) ?_
          refine mw_aload_n (dT d7_readLine 29 rfl) rfl (by decide) ?_
          refine mw_getI fl_X7_98 (dT d7_readLine 30 rfl) ?_
          refine mw_iconst (dT d7_readLine 31 rfl) ?_
          refine mw_sipush (by decide) (dT d7_readLine 32 rfl) ?_
          refine mw_callVV mv_7_readOnce ml_X7_155 (by decide) (dT d7_readLine 33 rfl) (as := [mI _, mI _, mI _]) rfl rfl T (fun h2 T => ?_)
          refine mw_goto 158 (dT d7_readLine 34 rfl) (by decide) ?_
          exact T
        · have T := T2 z
          refine mw_aload_n (dT d7_readLine 24 rfl) rfl (by decide) ?_
          refine mw_getI fl_X7_98 (dT d7_readLine 25 rfl) ?_
          refine mw_iconst (dT d7_readLine 26 rfl) ?_
          obtain ⟨z, T1, T2⟩ := T
          refine mw_icmp_ne 72 (dT d7_readLine 27 rfl) (by decide) ⟨z, by decide⟩ (fun z => ?_) (fun z => ?_)
          · have T := T1 z
            refine mw_aload_n (dT d7_readLine 35 rfl) rfl (by decide) ?_
            refine mw_getI fl_X7_98 (dT d7_readLine 36 rfl) ?_
            refine mw_iconst (dT d7_readLine 37 rfl) ?_
            obtain ⟨z, T1, T2⟩ := T
            refine mw_icmp_ne 91 (dT d7_readLine 38 rfl) (by decide) ⟨z, by decide⟩ (fun z => ?_) (fun z => ?_)
            · have T := T1 z
              refine mw_aload_n (dT d7_readLine 45 rfl) rfl (by decide) ?_
              refine mw_getI fl_X7_98 (dT d7_readLine 46 rfl) ?_
              refine mw_iconst (dT d7_readLine 47 rfl) ?_
              obtain ⟨z, T1, T2⟩ := T
              refine mw_icmp_ne 106 (dT d7_readLine 48 rfl) (by decide) ⟨z, by decide⟩ (fun z => ?_) (fun z => ?_)
              · have T := T1 z
                refine mw_aload_n (dT d7_readLine 52 rfl) rfl (by decide) ?_
                refine mw_getI fl_X7_98 (dT d7_readLine 53 rfl) ?_
                refine mw_bipush (by decide) (dT d7_readLine 54 rfl) ?_
                obtain ⟨z, T1, T2⟩ := T
                refine mw_icmp_ne 122 (dT d7_readLine 55 rfl) (by decide) ⟨z, by decide⟩ (fun z => ?_) (fun z => ?_)
                · have T := T1 z
                  refine mw_aload_n (dT d7_readLine 59 rfl) rfl (by decide) ?_
                  refine mw_getI fl_X7_98 (dT d7_readLine 60 rfl) ?_
                  refine mw_bipush (by decide) (dT d7_readLine 61 rfl) ?_
                  obtain ⟨z, T1, T2⟩ := T
                  refine mw_icmp_ne 138 (dT d7_readLine 62 rfl) (by decide) ⟨z, by decide⟩ (fun z => ?_) (fun z => ?_)
                  · have T := T1 z
                    refine mw_aload_n (dT d7_readLine 66 rfl) rfl (by decide) ?_
                    refine mw_getI fl_X7_98 (dT d7_readLine 67 rfl) ?_
                    refine mw_bipush (by decide) (dT d7_readLine 68 rfl) ?_
                    obtain ⟨z, T1, T2⟩ := T
                    refine mw_icmp_ne 154 (dT d7_readLine 69 rfl) (by decide) ⟨z, by decide⟩ (fun z => ?_) (fun z => ?_)
                    · have T := T1 z
                      refine mw_aload_n (dT d7_readLine 73 rfl) rfl (by decide) ?_
                      refine mw_callVV mv_7_readRisk ml_X7_171 (by decide) (dT d7_readLine 74 rfl) (as := []) rfl rfl T (fun h3 T => ?_)
                      exact T
                    · have T := T2 z
                      refine mw_aload_n (dT d7_readLine 70 rfl) rfl (by decide) ?_
                      refine mw_callVV mv_7_readJoin ml_X7_168 (by decide) (dT d7_readLine 71 rfl) (as := []) rfl rfl T (fun h4 T => ?_)
                      refine mw_goto 158 (dT d7_readLine 72 rfl) (by decide) ?_
                      exact T
                  · have T := T2 z
                    refine mw_aload_n (dT d7_readLine 63 rfl) rfl (by decide) ?_
                    refine mw_callVV mv_7_readBand ml_X7_165 (by decide) (dT d7_readLine 64 rfl) (as := []) rfl rfl T (fun h5 T => ?_)
                    refine mw_goto 158 (dT d7_readLine 65 rfl) (by decide) ?_
                    exact T
                · have T := T2 z
                  refine mw_aload_n (dT d7_readLine 56 rfl) rfl (by decide) ?_
                  refine mw_callVV mv_7_readFactor ml_X7_162 (by decide) (dT d7_readLine 57 rfl) (as := []) rfl rfl T (fun h6 T => ?_)
                  refine mw_goto 158 (dT d7_readLine 58 rfl) (by decide) ?_
                  exact T
              · have T := T2 z
                refine mw_aload_n (dT d7_readLine 49 rfl) rfl (by decide) ?_
                refine mw_callVV mv_7_readFleet ml_X7_159 (by decide) (dT d7_readLine 50 rfl) (as := []) rfl rfl T (fun h7 T => ?_)
                refine mw_goto 158 (dT d7_readLine 51 rfl) (by decide) ?_
                exact T
            · have T := T2 z
              refine mw_aload_n (dT d7_readLine 39 rfl) rfl (by decide) ?_
              refine mw_iconst (dT d7_readLine 40 rfl) ?_
              refine mw_iconst (dT d7_readLine 41 rfl) ?_
              refine mw_ldc kc_X7_107 (dT d7_readLine 42 rfl) ?_
              refine mw_callVV mv_7_readOnce ml_X7_155 (by decide) (dT d7_readLine 43 rfl) (as := [mI _, mI _, mI _]) rfl rfl T (fun h8 T => ?_)
              refine mw_goto 158 (dT d7_readLine 44 rfl) (by decide) ?_
              exact T
          · have T := T2 z
            refine mw_aload_n (dT d7_readLine 28 rfl) rfl (by decide) ?_
            refine mw_aload_n (dT d7_readLine 29 rfl) rfl (by decide) ?_
            refine mw_getI fl_X7_98 (dT d7_readLine 30 rfl) ?_
            refine mw_iconst (dT d7_readLine 31 rfl) ?_
            refine mw_sipush (by decide) (dT d7_readLine 32 rfl) ?_
            refine mw_callVV mv_7_readOnce ml_X7_155 (by decide) (dT d7_readLine 33 rfl) (as := [mI _, mI _, mI _]) rfl rfl T (fun h9 T => ?_)
            refine mw_goto 158 (dT d7_readLine 34 rfl) (by decide) ?_
            exact T
    · have T := T2 z
      refine mw_aload_n (dT d7_readLine 10 rfl) rfl (by decide) ?_
      refine mw_iconst (dT d7_readLine 11 rfl) ?_
      refine mw_iconst (dT d7_readLine 12 rfl) ?_
      refine mw_ldc kc_X7_107 (dT d7_readLine 13 rfl) ?_
      refine mw_callVV mv_7_readOnce ml_X7_155 (by decide) (dT d7_readLine 14 rfl) (as := [mI _, mI _, mI _]) rfl rfl T (fun h10 T => ?_)
      refine mw_goto 158 (dT d7_readLine 15 rfl) (by decide) ?_
      exact T
  · have T := T2 z
    refine mw_aload_n (dT d7_readLine 3 rfl) rfl (by decide) ?_
    refine mw_iconst (dT d7_readLine 4 rfl) ?_
    refine mw_callVV mv_7_wrong ml_X7_128 (by decide) (dT d7_readLine 5 rfl) (as := [mI _]) rfl rfl T (fun h11 T => ?_)
    refine mw_goto 158 (dT d7_readLine 6 rfl) (by decide) ?_
    exact T
abbrev A7_freshText_2 (K : mH → Prop) (x1 : Int) (h : mH) : Prop := At (mPV K) M7_freshText 2 [mR 30 0, mI x1] [] h
abbrev A7_freshText_52 (K : mH → Prop) (x1 : Int) (h : mH) : Prop := At (mPV K) M7_freshText 52 [mR 30 0, mI x1] [] h
theorem s7_freshText_2 {K : mH → Prop} {x1 : Int} {h : mH} (T : (mInR x1) ∧ (9 ≤ x1 → (OkV M7_reads [mR 30 0, mI 0, mI 1000] h (fun h1 => OkV M7_reads [mR 30 0, mI 1, mI 10] h1 (fun h2 => OkV M7_reads [mR 30 0, mI 2, mI 250] h2 (fun h3 => OkV M7_reads [mR 30 0, mI 5, mI 99] h3 (fun h4 => A7_freshText_52 K 0 h4)))))) ∧ (¬ 9 ≤ x1 → (OkV M7_reads [mR 30 0, mI x1, mI 0] h (fun h5 => A7_freshText_2 K (x1 + 1) h5)))) : A7_freshText_2 K x1 h := by
  refine mw_iload_n (dT d7_freshText 2 rfl) rfl ?_
  refine mw_bipush (by decide) (dT d7_freshText 3 rfl) ?_
  obtain ⟨z, T1, T2⟩ := T
  refine mw_icmp_ge 20 (dT d7_freshText 4 rfl) (by decide) ⟨z, by decide⟩ (fun z => ?_) (fun z => ?_)
  · have T := T1 z
    refine mw_aload_n (dT d7_freshText 11 rfl) rfl (by decide) ?_
    refine mw_iconst (dT d7_freshText 12 rfl) ?_
    refine mw_sipush (by decide) (dT d7_freshText 13 rfl) ?_
    refine mw_callVV mv_7_reads ml_X7_139 (by decide) (dT d7_freshText 14 rfl) (as := [mI _, mI _]) rfl rfl T (fun h1 T => ?_)
    refine mw_aload_n (dT d7_freshText 15 rfl) rfl (by decide) ?_
    refine mw_iconst (dT d7_freshText 16 rfl) ?_
    refine mw_bipush (by decide) (dT d7_freshText 17 rfl) ?_
    refine mw_callVV mv_7_reads ml_X7_139 (by decide) (dT d7_freshText 18 rfl) (as := [mI _, mI _]) rfl rfl T (fun h2 T => ?_)
    refine mw_aload_n (dT d7_freshText 19 rfl) rfl (by decide) ?_
    refine mw_iconst (dT d7_freshText 20 rfl) ?_
    refine mw_sipush (by decide) (dT d7_freshText 21 rfl) ?_
    refine mw_callVV mv_7_reads ml_X7_139 (by decide) (dT d7_freshText 22 rfl) (as := [mI _, mI _]) rfl rfl T (fun h3 T => ?_)
    refine mw_aload_n (dT d7_freshText 23 rfl) rfl (by decide) ?_
    refine mw_iconst (dT d7_freshText 24 rfl) ?_
    refine mw_bipush (by decide) (dT d7_freshText 25 rfl) ?_
    refine mw_callVV mv_7_reads ml_X7_139 (by decide) (dT d7_freshText 26 rfl) (as := [mI _, mI _]) rfl rfl T (fun h4 T => ?_)
    refine mw_iconst (dT d7_freshText 27 rfl) ?_
    refine mw_istore_n (dT d7_freshText 28 rfl) (by decide) ?_
    exact T
  · have T := T2 z
    refine mw_aload_n (dT d7_freshText 5 rfl) rfl (by decide) ?_
    refine mw_iload_n (dT d7_freshText 6 rfl) rfl ?_
    refine mw_iconst (dT d7_freshText 7 rfl) ?_
    refine mw_callVV mv_7_reads ml_X7_139 (by decide) (dT d7_freshText 8 rfl) (as := [mI _, mI _]) rfl rfl T (fun h5 T => ?_)
    refine mw_iinc (dT d7_freshText 9 rfl) rfl (by decide) ?_
    refine mw_goto 2 (dT d7_freshText 10 rfl) (by decide) ?_
    exact T
theorem s7_freshText_52 {K : mH → Prop} {x1 : Int} {h : mH} (T : (mInR x1) ∧ (6 ≤ x1 → (K h)) ∧ (¬ 6 ≤ x1 → ((0 ≤ x1 ∧ x1 < 6) ∧ (∀ h1 : mH, h1 = mSet h 33 0 x1 0 → (A7_freshText_52 K (x1 + 1) h1))))) : A7_freshText_52 K x1 h := by
  refine mw_iload_n (dT d7_freshText 29 rfl) rfl ?_
  refine mw_bipush (by decide) (dT d7_freshText 30 rfl) ?_
  obtain ⟨z, T1, T2⟩ := T
  refine mw_icmp_ge 71 (dT d7_freshText 31 rfl) (by decide) ⟨z, by decide⟩ (fun z => ?_) (fun z => ?_)
  · have T := T1 z
    exact mw_vret rfl (dT d7_freshText 39 rfl) ⟨rfl, T⟩
  · have T := T2 z
    refine mw_aload_n (dT d7_freshText 32 rfl) rfl (by decide) ?_
    refine mw_getR fl_X7_16 (dT d7_freshText 33 rfl) ?_
    refine mw_iload_n (dT d7_freshText 34 rfl) rfl ?_
    refine mw_iconst (dT d7_freshText 35 rfl) ?_
    obtain ⟨z, T⟩ := T
    have T := T _ rfl
    refine mw_zastore ro_33 (dT d7_freshText 36 rfl) ⟨z, Or.inl rfl⟩ ?_
    refine mw_iinc (dT d7_freshText 37 rfl) rfl (by decide) ?_
    refine mw_goto 52 (dT d7_freshText 38 rfl) (by decide) ?_
    exact T
theorem s7_freshText {K : mH → Prop} {h : mH} (T : A7_freshText_2 K 0 h) : OkV M7_freshText [mR 30 0] h K := by
  refine Ok.of rfl (n := 1) rfl ?_
  show At (mPV K) M7_freshText 0 [mR 30 0, mU] [] h
  refine mw_iconst (dT d7_freshText 0 rfl) ?_
  refine mw_istore_n (dT d7_freshText 1 rfl) (by decide) ?_
  exact T
abbrev A7_readText_28 (K : mH → Prop) (x1 : Int) (h : mH) : Prop := At (mPV K) M7_readText 28 [mR 30 0, mI x1] [] h
theorem s7_readText_28 {K : mH → Prop} {x1 : Int} {h : mH} (T : (mInR (h 30 0 18)) ∧ (¬ (h 30 0 18) = 0 → (K h)) ∧ ((h 30 0 18) = 0 → ((mInR (h 30 0 16)) ∧ ((h 30 0 16) = 4 → (K h)) ∧ (¬ (h 30 0 16) = 4 → (OkV M7_readLine [mR 30 0] h (fun h1 => A7_readText_28 K x1 h1)))))) : A7_readText_28 K x1 h := by
  refine mw_aload_n (dT d7_readText 16 rfl) rfl (by decide) ?_
  refine mw_getI fl_X7_119 (dT d7_readText 17 rfl) ?_
  obtain ⟨z, T1, T2⟩ := T
  refine mw_if_ne 50 (dT d7_readText 18 rfl) (by decide) z (fun z => ?_) (fun z => ?_)
  · have T := T1 z
    exact mw_vret rfl (dT d7_readText 26 rfl) ⟨rfl, T⟩
  · have T := T2 z
    refine mw_aload_n (dT d7_readText 19 rfl) rfl (by decide) ?_
    refine mw_getI fl_X7_88 (dT d7_readText 20 rfl) ?_
    refine mw_iconst (dT d7_readText 21 rfl) ?_
    obtain ⟨z, T1, T2⟩ := T
    refine mw_icmp_eq 50 (dT d7_readText 22 rfl) (by decide) ⟨z, by decide⟩ (fun z => ?_) (fun z => ?_)
    · have T := T1 z
      exact mw_vret rfl (dT d7_readText 26 rfl) ⟨rfl, T⟩
    · have T := T2 z
      refine mw_aload_n (dT d7_readText 23 rfl) rfl (by decide) ?_
      refine mw_callVV mv_7_readLine ml_X7_177 (by decide) (dT d7_readText 24 rfl) (as := []) rfl rfl T (fun h1 T => ?_)
      refine mw_goto 28 (dT d7_readText 25 rfl) (by decide) ?_
      exact T
theorem s7_readText {K : mH → Prop} {x1 : Int} {h : mH} (T : ∀ h1 : mH, h1 = mSet h 30 0 13 x1 → (∀ h2 : mH, h2 = mSet h1 30 0 14 0 → (∀ h3 : mH, h3 = mSet h2 30 0 18 0 → (∀ h4 : mH, h4 = mSet h3 30 0 12 0 → (OkV M7_freshText [mR 30 0] h4 (fun h5 => OkV M7_token [mR 30 0] h5 (fun h6 => A7_readText_28 K x1 h6))))))) : OkV M7_readText [mR 30 0, mI x1] h K := by
  refine Ok.of rfl (n := 0) rfl ?_
  show At (mPV K) M7_readText 0 [mR 30 0, mI x1] [] h
  refine mw_aload_n (dT d7_readText 0 rfl) rfl (by decide) ?_
  refine mw_iload_n (dT d7_readText 1 rfl) rfl ?_
  have T := T _ rfl
  refine mw_putI fp_X7_78 (dT d7_readText 2 rfl) ?_
  refine mw_aload_n (dT d7_readText 3 rfl) rfl (by decide) ?_
  refine mw_iconst (dT d7_readText 4 rfl) ?_
  have T := T _ rfl
  refine mw_putI fp_X7_75 (dT d7_readText 5 rfl) ?_
  refine mw_aload_n (dT d7_readText 6 rfl) rfl (by decide) ?_
  refine mw_iconst (dT d7_readText 7 rfl) ?_
  have T := T _ rfl
  refine mw_putI fp_X7_119 (dT d7_readText 8 rfl) ?_
  refine mw_aload_n (dT d7_readText 9 rfl) rfl (by decide) ?_
  refine mw_iconst (dT d7_readText 10 rfl) ?_
  have T := T _ rfl
  refine mw_putI fp_X7_174 (dT d7_readText 11 rfl) ?_
  refine mw_aload_n (dT d7_readText 12 rfl) rfl (by decide) ?_
  refine mw_callVV mv_7_freshText ml_X7_60 (by decide) (dT d7_readText 13 rfl) (as := []) rfl rfl T (fun h5 T => ?_)
  refine mw_aload_n (dT d7_readText 14 rfl) rfl (by decide) ?_
  refine mw_callVV mv_7_token ml_X7_125 (by decide) (dT d7_readText 15 rfl) (as := []) rfl rfl T (fun h6 T => ?_)
  exact T
abbrev A7_takeText_2 (K : mH → Prop) (x1 : Int) (h : mH) : Prop := At (mPV K) M7_takeText 2 [mR 30 0, mI x1] [] h
abbrev A7_takeText_27 (K : mH → Prop) (x1 : Int) (h : mH) : Prop := At (mPV K) M7_takeText 27 [mR 30 0, mI x1] [] h
theorem s7_takeText_2 {K : mH → Prop} {x1 : Int} {h : mH} (T : (mInR x1) ∧ (9 ≤ x1 → (A7_takeText_27 K 0 h)) ∧ (¬ 9 ≤ x1 → (OkI M7_reading [mR 30 0, mI x1] h (fun v1 h1 => (0 ≤ x1 ∧ x1 < 18) ∧ (∀ h2 : mH, h2 = mSet h1 32 0 x1 v1 → (A7_takeText_2 K (x1 + 1) h2)))))) : A7_takeText_2 K x1 h := by
  refine mw_iload_n (dT d7_takeText 2 rfl) rfl ?_
  refine mw_bipush (by decide) (dT d7_takeText 3 rfl) ?_
  obtain ⟨z, T1, T2⟩ := T
  refine mw_icmp_ge 25 (dT d7_takeText 4 rfl) (by decide) ⟨z, by decide⟩ (fun z => ?_) (fun z => ?_)
  · have T := T1 z
    refine mw_iconst (dT d7_takeText 14 rfl) ?_
    refine mw_istore_n (dT d7_takeText 15 rfl) (by decide) ?_
    exact T
  · have T := T2 z
    refine mw_aload_n (dT d7_takeText 5 rfl) rfl (by decide) ?_
    refine mw_getR fl_X7_13 (dT d7_takeText 6 rfl) ?_
    refine mw_iload_n (dT d7_takeText 7 rfl) rfl ?_
    refine mw_aload_n (dT d7_takeText 8 rfl) rfl (by decide) ?_
    refine mw_iload_n (dT d7_takeText 9 rfl) rfl ?_
    refine mw_callVI mv_7_reading ml_X7_143 (by decide) (dT d7_takeText 10 rfl) (as := [mI _]) rfl rfl T (fun v1 h1 T => ?_)
    obtain ⟨z, T⟩ := T
    have T := T _ rfl
    refine mw_iastore ro_32 (dT d7_takeText 11 rfl) z ?_
    refine mw_iinc (dT d7_takeText 12 rfl) rfl (by decide) ?_
    refine mw_goto 2 (dT d7_takeText 13 rfl) (by decide) ?_
    exact T
theorem s7_takeText_27 {K : mH → Prop} {x1 : Int} {h : mH} (T : (mInR x1) ∧ (4 ≤ x1 → (K h)) ∧ (¬ 4 ≤ x1 → ((0 ≤ (4 + x1) ∧ (4 + x1) < 8) ∧ ((0 ≤ x1 ∧ x1 < 8) ∧ (∀ h1 : mH, h1 = mSet h 34 0 x1 (h 34 0 (4 + x1)) → ((0 ≤ (4 + x1) ∧ (4 + x1) < 8) ∧ ((0 ≤ x1 ∧ x1 < 8) ∧ (∀ h2 : mH, h2 = mSet h1 35 0 x1 (h1 35 0 (4 + x1)) → ((0 ≤ (4 + x1) ∧ (4 + x1) < 8) ∧ ((0 ≤ x1 ∧ x1 < 8) ∧ (∀ h3 : mH, h3 = mSet h2 36 0 x1 (h2 36 0 (4 + x1)) → ((0 ≤ (4 + x1) ∧ (4 + x1) < 8) ∧ ((0 ≤ x1 ∧ x1 < 8) ∧ (∀ h4 : mH, h4 = mSet h3 37 0 x1 (h3 37 0 (4 + x1)) → ((0 ≤ (4 + x1) ∧ (4 + x1) < 8) ∧ ((0 ≤ x1 ∧ x1 < 8) ∧ (∀ h5 : mH, h5 = mSet h4 39 0 x1 (h4 39 0 (4 + x1)) → (A7_takeText_27 K (x1 + 1) h5)))))))))))))))))) : A7_takeText_27 K x1 h := by
  refine mw_iload_n (dT d7_takeText 16 rfl) rfl ?_
  refine mw_iconst (dT d7_takeText 17 rfl) ?_
  obtain ⟨z, T1, T2⟩ := T
  refine mw_icmp_ge 108 (dT d7_takeText 18 rfl) (by decide) ⟨z, by decide⟩ (fun z => ?_) (fun z => ?_)
  · have T := T1 z
    exact mw_vret rfl (dT d7_takeText 71 rfl) ⟨rfl, T⟩
  · have T := T2 z
    refine mw_aload_n (dT d7_takeText 19 rfl) rfl (by decide) ?_
    refine mw_getR fl_X7_20 (dT d7_takeText 20 rfl) ?_
    refine mw_iload_n (dT d7_takeText 21 rfl) rfl ?_
    refine mw_aload_n (dT d7_takeText 22 rfl) rfl (by decide) ?_
    refine mw_getR fl_X7_20 (dT d7_takeText 23 rfl) ?_
    refine mw_iconst (dT d7_takeText 24 rfl) ?_
    refine mw_iload_n (dT d7_takeText 25 rfl) rfl ?_
    refine mw_iadd (dT d7_takeText 26 rfl) ?_
    obtain ⟨z, T⟩ := T
    refine mw_iaload ro_34 (dT d7_takeText 27 rfl) z ?_
    obtain ⟨z, T⟩ := T
    have T := T _ rfl
    refine mw_iastore ro_34 (dT d7_takeText 28 rfl) z ?_
    refine mw_aload_n (dT d7_takeText 29 rfl) rfl (by decide) ?_
    refine mw_getR fl_X7_23 (dT d7_takeText 30 rfl) ?_
    refine mw_iload_n (dT d7_takeText 31 rfl) rfl ?_
    refine mw_aload_n (dT d7_takeText 32 rfl) rfl (by decide) ?_
    refine mw_getR fl_X7_23 (dT d7_takeText 33 rfl) ?_
    refine mw_iconst (dT d7_takeText 34 rfl) ?_
    refine mw_iload_n (dT d7_takeText 35 rfl) rfl ?_
    refine mw_iadd (dT d7_takeText 36 rfl) ?_
    obtain ⟨z, T⟩ := T
    refine mw_iaload ro_35 (dT d7_takeText 37 rfl) z ?_
    obtain ⟨z, T⟩ := T
    have T := T _ rfl
    refine mw_iastore ro_35 (dT d7_takeText 38 rfl) z ?_
    refine mw_aload_n (dT d7_takeText 39 rfl) rfl (by decide) ?_
    refine mw_getR fl_X7_26 (dT d7_takeText 40 rfl) ?_
    refine mw_iload_n (dT d7_takeText 41 rfl) rfl ?_
    refine mw_aload_n (dT d7_takeText 42 rfl) rfl (by decide) ?_
    refine mw_getR fl_X7_26 (dT d7_takeText 43 rfl) ?_
    refine mw_iconst (dT d7_takeText 44 rfl) ?_
    refine mw_iload_n (dT d7_takeText 45 rfl) rfl ?_
    refine mw_iadd (dT d7_takeText 46 rfl) ?_
    obtain ⟨z, T⟩ := T
    refine mw_iaload ro_36 (dT d7_takeText 47 rfl) z ?_
    obtain ⟨z, T⟩ := T
    have T := T _ rfl
    refine mw_iastore ro_36 (dT d7_takeText 48 rfl) z ?_
    refine mw_aload_n (dT d7_takeText 49 rfl) rfl (by decide) ?_
    refine mw_getR fl_X7_29 (dT d7_takeText 50 rfl) ?_
    refine mw_iload_n (dT d7_takeText 51 rfl) rfl ?_
    refine mw_aload_n (dT d7_takeText 52 rfl) rfl (by decide) ?_
    refine mw_getR fl_X7_29 (dT d7_takeText 53 rfl) ?_
    refine mw_iconst (dT d7_takeText 54 rfl) ?_
    refine mw_iload_n (dT d7_takeText 55 rfl) rfl ?_
    refine mw_iadd (dT d7_takeText 56 rfl) ?_
    obtain ⟨z, T⟩ := T
    refine mw_iaload ro_37 (dT d7_takeText 57 rfl) z ?_
    obtain ⟨z, T⟩ := T
    have T := T _ rfl
    refine mw_iastore ro_37 (dT d7_takeText 58 rfl) z ?_
    refine mw_aload_n (dT d7_takeText 59 rfl) rfl (by decide) ?_
    refine mw_getR fl_X7_35 (dT d7_takeText 60 rfl) ?_
    refine mw_iload_n (dT d7_takeText 61 rfl) rfl ?_
    refine mw_aload_n (dT d7_takeText 62 rfl) rfl (by decide) ?_
    refine mw_getR fl_X7_35 (dT d7_takeText 63 rfl) ?_
    refine mw_iconst (dT d7_takeText 64 rfl) ?_
    refine mw_iload_n (dT d7_takeText 65 rfl) rfl ?_
    refine mw_iadd (dT d7_takeText 66 rfl) ?_
    obtain ⟨z, T⟩ := T
    refine mw_iaload ro_39 (dT d7_takeText 67 rfl) z ?_
    obtain ⟨z, T⟩ := T
    have T := T _ rfl
    refine mw_iastore ro_39 (dT d7_takeText 68 rfl) z ?_
    refine mw_iinc (dT d7_takeText 69 rfl) rfl (by decide) ?_
    refine mw_goto 27 (dT d7_takeText 70 rfl) (by decide) ?_
    exact T
theorem s7_takeText {K : mH → Prop} {h : mH} (T : A7_takeText_2 K 0 h) : OkV M7_takeText [mR 30 0] h K := by
  refine Ok.of rfl (n := 1) rfl ?_
  show At (mPV K) M7_takeText 0 [mR 30 0, mU] [] h
  refine mw_iconst (dT d7_takeText 0 rfl) ?_
  refine mw_istore_n (dT d7_takeText 1 rfl) (by decide) ?_
  exact T
abbrev A7_text_54 (K : Int → mH → Prop) (x1 s0 : Int) (h : mH) : Prop := At (mPI K) M7_text 54 [mR 30 0, mI x1] [mI s0, mR 30 0] h
theorem s7_text_54 {K : Int → mH → Prop} {x1 s0 : Int} {h : mH} (T : ∀ h1 : mH, h1 = mSet h 30 0 21 s0 → ((mInR (h1 30 0 18)) ∧ ((h1 30 0 18) = 0 → (OkV M7_takeText [mR 30 0] h1 (fun h2 => OkV M7_begins [mR 30 0] h2 (fun h3 => ∀ h4 : mH, h4 = mSet h3 30 0 26 0 → (∀ h5 : mH, h5 = mSet h4 30 0 27 0 → (K (h5 30 0 12) h5)))))) ∧ (¬ (h1 30 0 18) = 0 → (K ((-1)) h1)))) : A7_text_54 K x1 s0 h := by
  have T := T _ rfl
  refine mw_putI fp_X7_41 (dT d7_text 29 rfl) ?_
  refine mw_aload_n (dT d7_text 30 rfl) rfl (by decide) ?_
  refine mw_getI fl_X7_119 (dT d7_text 31 rfl) ?_
  obtain ⟨z, T1, T2⟩ := T
  refine mw_if_eq 66 (dT d7_text 32 rfl) (by decide) z (fun z => ?_) (fun z => ?_)
  · have T := T1 z
    refine mw_aload_n (dT d7_text 35 rfl) rfl (by decide) ?_
    refine mw_callVV mv_7_takeText ml_X7_63 (by decide) (dT d7_text 36 rfl) (as := []) rfl rfl T (fun h2 T => ?_)
    refine mw_aload_n (dT d7_text 37 rfl) rfl (by decide) ?_
    refine mw_callVV mv_7_begins ml_X7_66 (by decide) (dT d7_text 38 rfl) (as := []) rfl rfl T (fun h3 T => ?_)
    refine mw_aload_n (dT d7_text 39 rfl) rfl (by decide) ?_
    refine mw_iconst (dT d7_text 40 rfl) ?_
    have T := T _ rfl
    refine mw_putI fp_X7_186 (dT d7_text 41 rfl) ?_
    refine mw_aload_n (dT d7_text 42 rfl) rfl (by decide) ?_
    refine mw_iconst (dT d7_text 43 rfl) ?_
    have T := T _ rfl
    refine mw_putZ fp_X7_189 (dT d7_text 44 rfl) (Or.inl rfl) ?_
    refine mw_aload_n (dT d7_text 45 rfl) rfl (by decide) ?_
    refine mw_getI fl_X7_174 (dT d7_text 46 rfl) ?_
    exact mw_iret rfl (dT d7_text 47 rfl) ⟨_, rfl, T⟩
  · have T := T2 z
    refine mw_iconst (dT d7_text 33 rfl) ?_
    exact mw_iret rfl (dT d7_text 34 rfl) ⟨_, rfl, T⟩
theorem s7_text {K : Int → mH → Prop} {x1 : Int} {h : mH} (T : ∀ h1 : mH, h1 = mSet h 30 0 0 0 → ((mInR x1) ∧ (x1 < 0 → (K ((-2)) h1)) ∧ (¬ x1 < 0 → ((mInR x1 ∧ mInR (h1 30 0 2)) ∧ (x1 ≤ (h1 30 0 2) → (OkV M7_readText [mR 30 0, mI x1] h1 (fun h2 => ∀ h3 : mH, h3 = mSet h2 30 0 2 0 → (∀ h4 : mH, h4 = mSet h3 30 0 20 (h3 30 0 18) → ((mInR (h4 30 0 18)) ∧ (¬ (h4 30 0 18) = 0 → (A7_text_54 K x1 (h4 30 0 19) h4)) ∧ ((h4 30 0 18) = 0 → (A7_text_54 K x1 ((-1)) h4))))))) ∧ (¬ x1 ≤ (h1 30 0 2) → (K ((-2)) h1)))))) : OkI M7_text [mR 30 0, mI x1] h K := by
  refine Ok.of rfl (n := 0) rfl ?_
  show At (mPI K) M7_text 0 [mR 30 0, mI x1] [] h
  refine mw_aload_n (dT d7_text 0 rfl) rfl (by decide) ?_
  refine mw_iconst (dT d7_text 1 rfl) ?_
  have T := T _ rfl
  refine mw_putI fp_X7_69 (dT d7_text 2 rfl) ?_
  refine mw_iload_n (dT d7_text 3 rfl) rfl ?_
  obtain ⟨z, T1, T2⟩ := T
  refine mw_if_lt 17 (dT d7_text 4 rfl) (by decide) z (fun z => ?_) (fun z => ?_)
  · have T := T1 z
    refine mw_bipush (by decide) (dT d7_text 9 rfl) ?_
    exact mw_iret rfl (dT d7_text 10 rfl) ⟨_, rfl, T⟩
  · have T := T2 z
    refine mw_iload_n (dT d7_text 5 rfl) rfl ?_
    refine mw_aload_n (dT d7_text 6 rfl) rfl (by decide) ?_
    refine mw_getI fl_X7_72 (dT d7_text 7 rfl) ?_
    obtain ⟨z, T1, T2⟩ := T
    refine mw_icmp_le 20 (dT d7_text 8 rfl) (by decide) z (fun z => ?_) (fun z => ?_)
    · have T := T1 z
      refine mw_aload_n (dT d7_text 11 rfl) rfl (by decide) ?_
      refine mw_iload_n (dT d7_text 12 rfl) rfl ?_
      refine mw_callVV mv_7_readText ml_X7_180 (by decide) (dT d7_text 13 rfl) (as := [mI _]) rfl rfl T (fun h2 T => ?_)
      refine mw_aload_n (dT d7_text 14 rfl) rfl (by decide) ?_
      refine mw_iconst (dT d7_text 15 rfl) ?_
      have T := T _ rfl
      refine mw_putI fp_X7_72 (dT d7_text 16 rfl) ?_
      refine mw_aload_n (dT d7_text 17 rfl) rfl (by decide) ?_
      refine mw_aload_n (dT d7_text 18 rfl) rfl (by decide) ?_
      refine mw_getI fl_X7_119 (dT d7_text 19 rfl) ?_
      have T := T _ rfl
      refine mw_putI fp_X7_183 (dT d7_text 20 rfl) ?_
      refine mw_aload_n (dT d7_text 21 rfl) rfl (by decide) ?_
      refine mw_aload_n (dT d7_text 22 rfl) rfl (by decide) ?_
      refine mw_getI fl_X7_119 (dT d7_text 23 rfl) ?_
      obtain ⟨z, T1, T2⟩ := T
      refine mw_if_ne 50 (dT d7_text 24 rfl) (by decide) z (fun z => ?_) (fun z => ?_)
      · have T := T1 z
        refine mw_aload_n (dT d7_text 27 rfl) rfl (by decide) ?_
        refine mw_getI fl_X7_122 (dT d7_text 28 rfl) ?_
        exact T
      · have T := T2 z
        refine mw_iconst (dT d7_text 25 rfl) ?_
        refine mw_goto 54 (dT d7_text 26 rfl) (by decide) ?_
        exact T
    · have T := T2 z
      refine mw_bipush (by decide) (dT d7_text 9 rfl) ?_
      exact mw_iret rfl (dT d7_text 10 rfl) ⟨_, rfl, T⟩
theorem s7_fault {K : Int → mH → Prop} {x1 : Int} {h : mH} (T : ∀ h1 : mH, h1 = mSet h 30 0 0 0 → ((mInR x1) ∧ (¬ x1 = 0 → ((mInR x1) ∧ (¬ x1 = 1 → (K ((-1)) h1)) ∧ (x1 = 1 → (K (h1 30 0 21) h1)))) ∧ (x1 = 0 → (K (h1 30 0 20) h1)))) : OkI M7_fault [mR 30 0, mI x1] h K := by
  refine Ok.of rfl (n := 0) rfl ?_
  show At (mPI K) M7_fault 0 [mR 30 0, mI x1] [] h
  refine mw_aload_n (dT d7_fault 0 rfl) rfl (by decide) ?_
  refine mw_iconst (dT d7_fault 1 rfl) ?_
  have T := T _ rfl
  refine mw_putI fp_X7_69 (dT d7_fault 2 rfl) ?_
  refine mw_iload_n (dT d7_fault 3 rfl) rfl ?_
  obtain ⟨z, T1, T2⟩ := T
  refine mw_if_ne 16 (dT d7_fault 4 rfl) (by decide) z (fun z => ?_) (fun z => ?_)
  · have T := T1 z
    refine mw_iload_n (dT d7_fault 8 rfl) rfl ?_
    refine mw_iconst (dT d7_fault 9 rfl) ?_
    obtain ⟨z, T1, T2⟩ := T
    refine mw_icmp_ne 28 (dT d7_fault 10 rfl) (by decide) ⟨z, by decide⟩ (fun z => ?_) (fun z => ?_)
    · have T := T1 z
      refine mw_iconst (dT d7_fault 14 rfl) ?_
      exact mw_iret rfl (dT d7_fault 15 rfl) ⟨_, rfl, T⟩
    · have T := T2 z
      refine mw_aload_n (dT d7_fault 11 rfl) rfl (by decide) ?_
      refine mw_getI fl_X7_41 (dT d7_fault 12 rfl) ?_
      refine mw_goto 29 (dT d7_fault 13 rfl) (by decide) ?_
      exact mw_iret rfl (dT d7_fault 15 rfl) ⟨_, rfl, T⟩
  · have T := T2 z
    refine mw_aload_n (dT d7_fault 5 rfl) rfl (by decide) ?_
    refine mw_getI fl_X7_183 (dT d7_fault 6 rfl) ?_
    refine mw_goto 29 (dT d7_fault 7 rfl) (by decide) ?_
    exact mw_iret rfl (dT d7_fault 15 rfl) ⟨_, rfl, T⟩
theorem s7_factors {K : Int → mH → Prop} {h : mH} (T : K (h 32 0 7) h) : OkI M7_factors [mR 30 0] h K := by
  refine Ok.of rfl (n := 0) rfl ?_
  show At (mPI K) M7_factors 0 [mR 30 0] [] h
  refine mw_aload_n (dT d7_factors 0 rfl) rfl (by decide) ?_
  refine mw_getR fl_X7_13 (dT d7_factors 1 rfl) ?_
  refine mw_bipush (by decide) (dT d7_factors 2 rfl) ?_
  refine mw_iaload ro_32 (dT d7_factors 3 rfl) (by decide) ?_
  exact mw_iret rfl (dT d7_factors 4 rfl) ⟨_, rfl, T⟩
theorem s7_named {K : Int → mH → Prop} {x1 : Int} {h : mH} (T : ∀ h1 : mH, h1 = mSet h 30 0 0 0 → (OkI M7_factors [mR 30 0] h1 (fun v1 h2 => OkI M7_namedAt [mR 30 0, mI 0, mI v1, mI x1] h2 (fun v2 h3 => K v2 h3)))) : OkI M7_named [mR 30 0, mI x1] h K := by
  refine Ok.of rfl (n := 0) rfl ?_
  show At (mPI K) M7_named 0 [mR 30 0, mI x1] [] h
  refine mw_aload_n (dT d7_named 0 rfl) rfl (by decide) ?_
  refine mw_iconst (dT d7_named 1 rfl) ?_
  have T := T _ rfl
  refine mw_putI fp_X7_69 (dT d7_named 2 rfl) ?_
  refine mw_aload_n (dT d7_named 3 rfl) rfl (by decide) ?_
  refine mw_iconst (dT d7_named 4 rfl) ?_
  refine mw_aload_n (dT d7_named 5 rfl) rfl (by decide) ?_
  refine mw_callVI mv_7_factors ml_X7_193 (by decide) (dT d7_named 6 rfl) (as := []) rfl rfl T (fun v1 h2 T => ?_)
  refine mw_iload_n (dT d7_named 7 rfl) rfl ?_
  refine mw_callVI mv_7_namedAt ml_X7_147 (by decide) (dT d7_named 8 rfl) (as := [mI _, mI _, mI _]) rfl rfl T (fun v2 h3 T => ?_)
  exact mw_iret rfl (dT d7_named 9 rfl) ⟨_, rfl, T⟩
abbrev A7_copies_3 (K : mH → Prop) (q0 : Nat) (i0 n0 : Int) (q2 : Nat) (i2 n2 : Int) (x1 x3 x4 : Int) (h : mH) : Prop := At (mPV K) M7_copies 3 [mR q0 i0, mI x1, mR q2 i2, mI x3, mI x4] [] h
theorem s7_copies_3 {K : mH → Prop} {q0 : Nat} {i0 n0 : Int} {q2 : Nat} {i2 n2 : Int} {x1 x3 x4 : Int} {h : mH} (hq0 : mRo q0 1 n0) (hq2 : mRo q2 1 n2) (T : (mInR x4) ∧ (314 ≤ x4 → (K h)) ∧ (¬ 314 ≤ x4 → ((0 ≤ (x1 + x4) ∧ (x1 + x4) < n0) ∧ ((0 ≤ (x3 + x4) ∧ (x3 + x4) < n2) ∧ (∀ h1 : mH, h1 = mSet h q2 i2 (x3 + x4) (h q0 i0 (x1 + x4)) → (A7_copies_3 K q0 i0 n0 q2 i2 n2 x1 x3 (x4 + 1) h1)))))) : A7_copies_3 K q0 i0 n0 q2 i2 n2 x1 x3 x4 h := by
  refine mw_iload (dT d7_copies 2 rfl) rfl ?_
  refine mw_sipush (by decide) (dT d7_copies 3 rfl) ?_
  obtain ⟨z, T1, T2⟩ := T
  refine mw_icmp_ge 29 (dT d7_copies 4 rfl) (by decide) ⟨z, by decide⟩ (fun z => ?_) (fun z => ?_)
  · have T := T1 z
    exact mw_vret rfl (dT d7_copies 17 rfl) ⟨rfl, T⟩
  · have T := T2 z
    refine mw_aload_n (dT d7_copies 5 rfl) rfl hq2.ne ?_
    refine mw_iload_n (dT d7_copies 6 rfl) rfl ?_
    refine mw_iload (dT d7_copies 7 rfl) rfl ?_
    refine mw_iadd (dT d7_copies 8 rfl) ?_
    refine mw_aload_n (dT d7_copies 9 rfl) rfl hq0.ne ?_
    refine mw_iload_n (dT d7_copies 10 rfl) rfl ?_
    refine mw_iload (dT d7_copies 11 rfl) rfl ?_
    refine mw_iadd (dT d7_copies 12 rfl) ?_
    obtain ⟨z, T⟩ := T
    refine mw_iaload hq0 (dT d7_copies 13 rfl) z ?_
    obtain ⟨z, T⟩ := T
    have T := T _ rfl
    refine mw_iastore hq2 (dT d7_copies 14 rfl) z ?_
    refine mw_iinc (dT d7_copies 15 rfl) rfl (by decide) ?_
    refine mw_goto 3 (dT d7_copies 16 rfl) (by decide) ?_
    exact T
theorem s7_copies {K : mH → Prop} {q0 : Nat} {i0 n0 : Int} {x1 : Int} {q2 : Nat} {i2 n2 : Int} {x3 : Int} {h : mH} (hq0 : mRo q0 1 n0) (hq2 : mRo q2 1 n2) (T : A7_copies_3 K q0 i0 n0 q2 i2 n2 x1 x3 0 h) : OkV M7_copies [mR q0 i0, mI x1, mR q2 i2, mI x3] h K := by
  refine Ok.of rfl (n := 1) rfl ?_
  show At (mPV K) M7_copies 0 [mR q0 i0, mI x1, mR q2 i2, mI x3, mU] [] h
  refine mw_iconst (dT d7_copies 0 rfl) ?_
  refine mw_istore (dT d7_copies 1 rfl) (by decide) ?_
  exact T
abbrev A7_begins_2 (K : mH → Prop) (x1 : Int) (h : mH) : Prop := At (mPV K) M7_begins 2 [mR 30 0, mI x1, mU] [] h
abbrev A7_begins_47 (K : mH → Prop) (x1 : Int) (h : mH) : Prop := At (mPV K) M7_begins 47 [mR 30 0, mI x1, mU] [] h
abbrev A7_begins_73 (K : mH → Prop) (x1 x2 : Int) (h : mH) : Prop := At (mPV K) M7_begins 73 [mR 30 0, mI x1, mI x2] [] h
theorem s7_begins_2 {K : mH → Prop} {x1 : Int} {h : mH} (T : (mInR x1) ∧ (314 ≤ x1 → (A7_begins_47 K 0 h)) ∧ (¬ 314 ≤ x1 → ((mInR x1 ∧ mInR (7 * (h 32 0 8))) ∧ ((7 * (h 32 0 8)) ≤ x1 → ((0 ≤ x1 ∧ x1 < 314) ∧ (∀ h1 : mH, h1 = mSet h 41 0 x1 0 → (A7_begins_2 K (x1 + 1) h1)))) ∧ (¬ (7 * (h 32 0 8)) ≤ x1 → ((0 ≤ x1 ∧ x1 < 280) ∧ ((0 ≤ x1 ∧ x1 < 314) ∧ (∀ h2 : mH, h2 = mSet h 41 0 x1 (h 40 0 x1) → (A7_begins_2 K (x1 + 1) h2)))))))) : A7_begins_2 K x1 h := by
  refine mw_iload_n (dT d7_begins 2 rfl) rfl ?_
  refine mw_sipush (by decide) (dT d7_begins 3 rfl) ?_
  obtain ⟨z, T1, T2⟩ := T
  refine mw_icmp_ge 45 (dT d7_begins 4 rfl) (by decide) ⟨z, by decide⟩ (fun z => ?_) (fun z => ?_)
  · have T := T1 z
    refine mw_iconst (dT d7_begins 25 rfl) ?_
    refine mw_istore_n (dT d7_begins 26 rfl) (by decide) ?_
    exact T
  · have T := T2 z
    refine mw_aload_n (dT d7_begins 5 rfl) rfl (by decide) ?_
    refine mw_getR fl_X7_45 (dT d7_begins 6 rfl) ?_
    refine mw_iload_n (dT d7_begins 7 rfl) rfl ?_
    refine mw_iload_n (dT d7_begins 8 rfl) rfl ?_
    refine mw_bipush (by decide) (dT d7_begins 9 rfl) ?_
    refine mw_aload_n (dT d7_begins 10 rfl) rfl (by decide) ?_
    refine mw_getR fl_X7_13 (dT d7_begins 11 rfl) ?_
    refine mw_bipush (by decide) (dT d7_begins 12 rfl) ?_
    refine mw_iaload ro_32 (dT d7_begins 13 rfl) (by decide) ?_
    refine mw_imul (dT d7_begins 14 rfl) ?_
    obtain ⟨z, T1, T2⟩ := T
    refine mw_icmp_ge 37 (dT d7_begins 15 rfl) (by decide) z (fun z => ?_) (fun z => ?_)
    · have T := T1 z
      refine mw_iconst (dT d7_begins 21 rfl) ?_
      obtain ⟨z, T⟩ := T
      have T := T _ rfl
      refine mw_iastore ro_41 (dT d7_begins 22 rfl) z ?_
      refine mw_iinc (dT d7_begins 23 rfl) rfl (by decide) ?_
      refine mw_goto 2 (dT d7_begins 24 rfl) (by decide) ?_
      exact T
    · have T := T2 z
      refine mw_aload_n (dT d7_begins 16 rfl) rfl (by decide) ?_
      refine mw_getR fl_X7_38 (dT d7_begins 17 rfl) ?_
      refine mw_iload_n (dT d7_begins 18 rfl) rfl ?_
      obtain ⟨z, T⟩ := T
      refine mw_iaload ro_40 (dT d7_begins 19 rfl) z ?_
      refine mw_goto 38 (dT d7_begins 20 rfl) (by decide) ?_
      obtain ⟨z, T⟩ := T
      have T := T _ rfl
      refine mw_iastore ro_41 (dT d7_begins 22 rfl) z ?_
      refine mw_iinc (dT d7_begins 23 rfl) rfl (by decide) ?_
      refine mw_goto 2 (dT d7_begins 24 rfl) (by decide) ?_
      exact T
theorem s7_begins_47 {K : mH → Prop} {x1 : Int} {h : mH} (T : OkI M7_factors [mR 30 0] h (fun v1 h1 => (mInR x1 ∧ mInR v1) ∧ (v1 ≤ x1 → (∀ h2 : mH, h2 = mSet h1 41 0 308 (h1 32 0 0) → (∀ h3 : mH, h3 = mSet h2 41 0 309 (h2 32 0 2) → (∀ h4 : mH, h4 = mSet h3 41 0 311 (h3 32 0 4) → (∀ h5 : mH, h5 = mSet h4 41 0 312 (h4 32 0 5) → (∀ h6 : mH, h6 = mSet h5 41 0 313 (h5 32 0 6) → (∀ h7 : mH, h7 = mSet h6 41 0 310 (h6 32 0 8) → (K h7)))))))) ∧ (¬ v1 ≤ x1 → ((0 ≤ x1 ∧ x1 < 8) ∧ ((0 ≤ (304 + x1) ∧ (304 + x1) < 314) ∧ (∀ h8 : mH, h8 = mSet h1 41 0 (304 + x1) (h1 39 0 x1) → (A7_begins_73 K x1 0 h8))))))) : A7_begins_47 K x1 h := by
  refine mw_iload_n (dT d7_begins 27 rfl) rfl ?_
  refine mw_aload_n (dT d7_begins 28 rfl) rfl (by decide) ?_
  refine mw_callVI mv_7_factors ml_X7_193 (by decide) (dT d7_begins 29 rfl) (as := []) rfl rfl T (fun v1 h1 T => ?_)
  obtain ⟨z, T1, T2⟩ := T
  refine mw_icmp_ge 113 (dT d7_begins 30 rfl) (by decide) z (fun z => ?_) (fun z => ?_)
  · have T := T1 z
    refine mw_aload_n (dT d7_begins 64 rfl) rfl (by decide) ?_
    refine mw_getR fl_X7_45 (dT d7_begins 65 rfl) ?_
    refine mw_sipush (by decide) (dT d7_begins 66 rfl) ?_
    refine mw_aload_n (dT d7_begins 67 rfl) rfl (by decide) ?_
    refine mw_getR fl_X7_13 (dT d7_begins 68 rfl) ?_
    refine mw_iconst (dT d7_begins 69 rfl) ?_
    refine mw_iaload ro_32 (dT d7_begins 70 rfl) (by decide) ?_
    have T := T _ rfl
    refine mw_iastore ro_41 (dT d7_begins 71 rfl) (by decide) ?_
    refine mw_aload_n (dT d7_begins 72 rfl) rfl (by decide) ?_
    refine mw_getR fl_X7_45 (dT d7_begins 73 rfl) ?_
    refine mw_sipush (by decide) (dT d7_begins 74 rfl) ?_
    refine mw_aload_n (dT d7_begins 75 rfl) rfl (by decide) ?_
    refine mw_getR fl_X7_13 (dT d7_begins 76 rfl) ?_
    refine mw_iconst (dT d7_begins 77 rfl) ?_
    refine mw_iaload ro_32 (dT d7_begins 78 rfl) (by decide) ?_
    have T := T _ rfl
    refine mw_iastore ro_41 (dT d7_begins 79 rfl) (by decide) ?_
    refine mw_aload_n (dT d7_begins 80 rfl) rfl (by decide) ?_
    refine mw_getR fl_X7_45 (dT d7_begins 81 rfl) ?_
    refine mw_sipush (by decide) (dT d7_begins 82 rfl) ?_
    refine mw_aload_n (dT d7_begins 83 rfl) rfl (by decide) ?_
    refine mw_getR fl_X7_13 (dT d7_begins 84 rfl) ?_
    refine mw_iconst (dT d7_begins 85 rfl) ?_
    refine mw_iaload ro_32 (dT d7_begins 86 rfl) (by decide) ?_
    have T := T _ rfl
    refine mw_iastore ro_41 (dT d7_begins 87 rfl) (by decide) ?_
    refine mw_aload_n (dT d7_begins 88 rfl) rfl (by decide) ?_
    refine mw_getR fl_X7_45 (dT d7_begins 89 rfl) ?_
    refine mw_sipush (by decide) (dT d7_begins 90 rfl) ?_
    refine mw_aload_n (dT d7_begins 91 rfl) rfl (by decide) ?_
    refine mw_getR fl_X7_13 (dT d7_begins 92 rfl) ?_
    refine mw_iconst (dT d7_begins 93 rfl) ?_
    refine mw_iaload ro_32 (dT d7_begins 94 rfl) (by decide) ?_
    have T := T _ rfl
    refine mw_iastore ro_41 (dT d7_begins 95 rfl) (by decide) ?_
    refine mw_aload_n (dT d7_begins 96 rfl) rfl (by decide) ?_
    refine mw_getR fl_X7_45 (dT d7_begins 97 rfl) ?_
    refine mw_sipush (by decide) (dT d7_begins 98 rfl) ?_
    refine mw_aload_n (dT d7_begins 99 rfl) rfl (by decide) ?_
    refine mw_getR fl_X7_13 (dT d7_begins 100 rfl) ?_
    refine mw_bipush (by decide) (dT d7_begins 101 rfl) ?_
    refine mw_iaload ro_32 (dT d7_begins 102 rfl) (by decide) ?_
    have T := T _ rfl
    refine mw_iastore ro_41 (dT d7_begins 103 rfl) (by decide) ?_
    refine mw_aload_n (dT d7_begins 104 rfl) rfl (by decide) ?_
    refine mw_getR fl_X7_45 (dT d7_begins 105 rfl) ?_
    refine mw_sipush (by decide) (dT d7_begins 106 rfl) ?_
    refine mw_aload_n (dT d7_begins 107 rfl) rfl (by decide) ?_
    refine mw_getR fl_X7_13 (dT d7_begins 108 rfl) ?_
    refine mw_bipush (by decide) (dT d7_begins 109 rfl) ?_
    refine mw_iaload ro_32 (dT d7_begins 110 rfl) (by decide) ?_
    have T := T _ rfl
    refine mw_iastore ro_41 (dT d7_begins 111 rfl) (by decide) ?_
    exact mw_vret rfl (dT d7_begins 112 rfl) ⟨rfl, T⟩
  · have T := T2 z
    refine mw_aload_n (dT d7_begins 31 rfl) rfl (by decide) ?_
    refine mw_getR fl_X7_45 (dT d7_begins 32 rfl) ?_
    refine mw_sipush (by decide) (dT d7_begins 33 rfl) ?_
    refine mw_iload_n (dT d7_begins 34 rfl) rfl ?_
    refine mw_iadd (dT d7_begins 35 rfl) ?_
    refine mw_aload_n (dT d7_begins 36 rfl) rfl (by decide) ?_
    refine mw_getR fl_X7_35 (dT d7_begins 37 rfl) ?_
    refine mw_iload_n (dT d7_begins 38 rfl) rfl ?_
    obtain ⟨z, T⟩ := T
    refine mw_iaload ro_39 (dT d7_begins 39 rfl) z ?_
    obtain ⟨z, T⟩ := T
    have T := T _ rfl
    refine mw_iastore ro_41 (dT d7_begins 40 rfl) z ?_
    refine mw_iconst (dT d7_begins 41 rfl) ?_
    refine mw_istore_n (dT d7_begins 42 rfl) (by decide) ?_
    exact T
theorem s7_begins_73 {K : mH → Prop} {x1 x2 : Int} {h : mH} (T : (0 ≤ x1 ∧ x1 < 8) ∧ ((mInR x2 ∧ mInR (h 35 0 x1)) ∧ ((h 35 0 x1) ≤ x2 → (A7_begins_47 K (x1 + 1) h)) ∧ (¬ (h 35 0 x1) ≤ x2 → ((0 ≤ ((280 + (6 * x1)) + x2) ∧ ((280 + (6 * x1)) + x2) < 314) ∧ (∀ h1 : mH, h1 = mSet h 41 0 ((280 + (6 * x1)) + x2) 10000 → (A7_begins_73 K x1 (x2 + 1) h1)))))) : A7_begins_73 K x1 x2 h := by
  refine mw_iload_n (dT d7_begins 43 rfl) rfl ?_
  refine mw_aload_n (dT d7_begins 44 rfl) rfl (by decide) ?_
  refine mw_getR fl_X7_23 (dT d7_begins 45 rfl) ?_
  refine mw_iload_n (dT d7_begins 46 rfl) rfl ?_
  obtain ⟨z, T⟩ := T
  refine mw_iaload ro_35 (dT d7_begins 47 rfl) z ?_
  obtain ⟨z, T1, T2⟩ := T
  refine mw_icmp_ge 107 (dT d7_begins 48 rfl) (by decide) z (fun z => ?_) (fun z => ?_)
  · have T := T1 z
    refine mw_iinc (dT d7_begins 62 rfl) rfl (by decide) ?_
    refine mw_goto 47 (dT d7_begins 63 rfl) (by decide) ?_
    exact At.forget [2] T
  · have T := T2 z
    refine mw_aload_n (dT d7_begins 49 rfl) rfl (by decide) ?_
    refine mw_getR fl_X7_45 (dT d7_begins 50 rfl) ?_
    refine mw_sipush (by decide) (dT d7_begins 51 rfl) ?_
    refine mw_bipush (by decide) (dT d7_begins 52 rfl) ?_
    refine mw_iload_n (dT d7_begins 53 rfl) rfl ?_
    refine mw_imul (dT d7_begins 54 rfl) ?_
    refine mw_iadd (dT d7_begins 55 rfl) ?_
    refine mw_iload_n (dT d7_begins 56 rfl) rfl ?_
    refine mw_iadd (dT d7_begins 57 rfl) ?_
    refine mw_sipush (by decide) (dT d7_begins 58 rfl) ?_
    obtain ⟨z, T⟩ := T
    have T := T _ rfl
    refine mw_iastore ro_41 (dT d7_begins 59 rfl) z ?_
    refine mw_iinc (dT d7_begins 60 rfl) rfl (by decide) ?_
    refine mw_goto 73 (dT d7_begins 61 rfl) (by decide) ?_
    exact T
theorem s7_begins {K : mH → Prop} {h : mH} (T : A7_begins_2 K 0 h) : OkV M7_begins [mR 30 0] h K := by
  refine Ok.of rfl (n := 2) rfl ?_
  show At (mPV K) M7_begins 0 [mR 30 0, mU, mU] [] h
  refine mw_iconst (dT d7_begins 0 rfl) ?_
  refine mw_istore_n (dT d7_begins 1 rfl) (by decide) ?_
  exact T
abbrev A7_remembers_11 (K : mH → Prop) (x1 : Int) (h : mH) : Prop := At (mPV K) M7_remembers 11 [mR 30 0, mI x1] [] h
abbrev A7_remembers_50 (K : mH → Prop) (h : mH) : Prop := At (mPV K) M7_remembers 50 [mR 30 0, mU] [] h
theorem s7_remembers_11 {K : mH → Prop} {x1 : Int} {h : mH} (T : (mInR x1) ∧ (5966 ≤ x1 → (∀ h1 : mH, h1 = mSet h 30 0 26 ((h 30 0 26) - 1) → (A7_remembers_50 K h1))) ∧ (¬ 5966 ≤ x1 → ((0 ≤ (314 + x1) ∧ (314 + x1) < 6280) ∧ ((0 ≤ x1 ∧ x1 < 6280) ∧ (∀ h2 : mH, h2 = mSet h 44 0 x1 (h 44 0 (314 + x1)) → (A7_remembers_11 K (x1 + 1) h2)))))) : A7_remembers_11 K x1 h := by
  refine mw_iload_n (dT d7_remembers 6 rfl) rfl ?_
  refine mw_sipush (by decide) (dT d7_remembers 7 rfl) ?_
  obtain ⟨z, T1, T2⟩ := T
  refine mw_icmp_ge 40 (dT d7_remembers 8 rfl) (by decide) ⟨z, by decide⟩ (fun z => ?_) (fun z => ?_)
  · have T := T1 z
    refine mw_aload_n (dT d7_remembers 21 rfl) rfl (by decide) ?_
    refine mw_dup (dT d7_remembers 22 rfl) (fun _ z => by cases z) ?_
    refine mw_getI fl_X7_186 (dT d7_remembers 23 rfl) ?_
    refine mw_iconst (dT d7_remembers 24 rfl) ?_
    refine mw_isub (dT d7_remembers 25 rfl) ?_
    have T := T _ rfl
    refine mw_putI fp_X7_186 (dT d7_remembers 26 rfl) ?_
    exact At.forget [1] T
  · have T := T2 z
    refine mw_aload_n (dT d7_remembers 9 rfl) rfl (by decide) ?_
    refine mw_getR fl_X7_54 (dT d7_remembers 10 rfl) ?_
    refine mw_iload_n (dT d7_remembers 11 rfl) rfl ?_
    refine mw_aload_n (dT d7_remembers 12 rfl) rfl (by decide) ?_
    refine mw_getR fl_X7_54 (dT d7_remembers 13 rfl) ?_
    refine mw_sipush (by decide) (dT d7_remembers 14 rfl) ?_
    refine mw_iload_n (dT d7_remembers 15 rfl) rfl ?_
    refine mw_iadd (dT d7_remembers 16 rfl) ?_
    obtain ⟨z, T⟩ := T
    refine mw_iaload ro_44 (dT d7_remembers 17 rfl) z ?_
    obtain ⟨z, T⟩ := T
    have T := T _ rfl
    refine mw_iastore ro_44 (dT d7_remembers 18 rfl) z ?_
    refine mw_iinc (dT d7_remembers 19 rfl) rfl (by decide) ?_
    refine mw_goto 11 (dT d7_remembers 20 rfl) (by decide) ?_
    exact T
theorem s7_remembers_50 {K : mH → Prop} {h : mH} (T : OkV M7_copies [mR 41 0, mI 0, mR 44 0, mI (314 * (h 30 0 26))] h (fun h1 => ∀ h2 : mH, h2 = mSet h1 30 0 26 ((h1 30 0 26) + 1) → (K h2))) : A7_remembers_50 K  h := by
  refine mw_aload_n (dT d7_remembers 27 rfl) rfl (by decide) ?_
  refine mw_getR fl_X7_45 (dT d7_remembers 28 rfl) ?_
  refine mw_iconst (dT d7_remembers 29 rfl) ?_
  refine mw_aload_n (dT d7_remembers 30 rfl) rfl (by decide) ?_
  refine mw_getR fl_X7_54 (dT d7_remembers 31 rfl) ?_
  refine mw_sipush (by decide) (dT d7_remembers 32 rfl) ?_
  refine mw_aload_n (dT d7_remembers 33 rfl) rfl (by decide) ?_
  refine mw_getI fl_X7_186 (dT d7_remembers 34 rfl) ?_
  refine mw_imul (dT d7_remembers 35 rfl) ?_
  refine mw_callSV mt_7_copies ml_X7_196 (by decide) (dT d7_remembers 36 rfl) (as := [mR 41 _, mI _, mR 44 _, mI _]) rfl rfl T (fun h1 T => ?_)
  refine mw_aload_n (dT d7_remembers 37 rfl) rfl (by decide) ?_
  refine mw_dup (dT d7_remembers 38 rfl) (fun _ z => by cases z) ?_
  refine mw_getI fl_X7_186 (dT d7_remembers 39 rfl) ?_
  refine mw_iconst (dT d7_remembers 40 rfl) ?_
  refine mw_iadd (dT d7_remembers 41 rfl) ?_
  have T := T _ rfl
  refine mw_putI fp_X7_186 (dT d7_remembers 42 rfl) ?_
  exact mw_vret rfl (dT d7_remembers 43 rfl) ⟨rfl, T⟩
theorem s7_remembers {K : mH → Prop} {h : mH} (T : (mInR (h 30 0 26)) ∧ (¬ (h 30 0 26) = 20 → (A7_remembers_50 K h)) ∧ ((h 30 0 26) = 20 → (A7_remembers_11 K 0 h))) : OkV M7_remembers [mR 30 0] h K := by
  refine Ok.of rfl (n := 1) rfl ?_
  show At (mPV K) M7_remembers 0 [mR 30 0, mU] [] h
  refine mw_aload_n (dT d7_remembers 0 rfl) rfl (by decide) ?_
  refine mw_getI fl_X7_186 (dT d7_remembers 1 rfl) ?_
  refine mw_bipush (by decide) (dT d7_remembers 2 rfl) ?_
  obtain ⟨z, T1, T2⟩ := T
  refine mw_icmp_ne 50 (dT d7_remembers 3 rfl) (by decide) ⟨z, by decide⟩ (fun z => ?_) (fun z => ?_)
  · have T := T1 z
    exact T
  · have T := T2 z
    refine mw_iconst (dT d7_remembers 4 rfl) ?_
    refine mw_istore_n (dT d7_remembers 5 rfl) (by decide) ?_
    exact T
theorem s7_undo {K : Int → mH → Prop} {h : mH} (T : ∀ h1 : mH, h1 = mSet h 30 0 0 0 → ((mInR (h1 30 0 26)) ∧ (¬ (h1 30 0 26) = 0 → (∀ h2 : mH, h2 = mSet h1 30 0 26 ((h1 30 0 26) - 1) → (OkV M7_copies [mR 44 0, mI (314 * (h2 30 0 26)), mR 41 0, mI 0] h2 (fun h3 => K (h3 30 0 26) h3)))) ∧ ((h1 30 0 26) = 0 → (K ((-1)) h1)))) : OkI M7_undo [mR 30 0] h K := by
  refine Ok.of rfl (n := 0) rfl ?_
  show At (mPI K) M7_undo 0 [mR 30 0] [] h
  refine mw_aload_n (dT d7_undo 0 rfl) rfl (by decide) ?_
  refine mw_iconst (dT d7_undo 1 rfl) ?_
  have T := T _ rfl
  refine mw_putI fp_X7_69 (dT d7_undo 2 rfl) ?_
  refine mw_aload_n (dT d7_undo 3 rfl) rfl (by decide) ?_
  refine mw_getI fl_X7_186 (dT d7_undo 4 rfl) ?_
  obtain ⟨z, T1, T2⟩ := T
  refine mw_if_ne 14 (dT d7_undo 5 rfl) (by decide) z (fun z => ?_) (fun z => ?_)
  · have T := T1 z
    refine mw_aload_n (dT d7_undo 8 rfl) rfl (by decide) ?_
    refine mw_dup (dT d7_undo 9 rfl) (fun _ z => by cases z) ?_
    refine mw_getI fl_X7_186 (dT d7_undo 10 rfl) ?_
    refine mw_iconst (dT d7_undo 11 rfl) ?_
    refine mw_isub (dT d7_undo 12 rfl) ?_
    have T := T _ rfl
    refine mw_putI fp_X7_186 (dT d7_undo 13 rfl) ?_
    refine mw_aload_n (dT d7_undo 14 rfl) rfl (by decide) ?_
    refine mw_getR fl_X7_54 (dT d7_undo 15 rfl) ?_
    refine mw_sipush (by decide) (dT d7_undo 16 rfl) ?_
    refine mw_aload_n (dT d7_undo 17 rfl) rfl (by decide) ?_
    refine mw_getI fl_X7_186 (dT d7_undo 18 rfl) ?_
    refine mw_imul (dT d7_undo 19 rfl) ?_
    refine mw_aload_n (dT d7_undo 20 rfl) rfl (by decide) ?_
    refine mw_getR fl_X7_45 (dT d7_undo 21 rfl) ?_
    refine mw_iconst (dT d7_undo 22 rfl) ?_
    refine mw_callSV mt_7_copies ml_X7_196 (by decide) (dT d7_undo 23 rfl) (as := [mR 44 _, mI _, mR 41 _, mI _]) rfl rfl T (fun h3 T => ?_)
    refine mw_aload_n (dT d7_undo 24 rfl) rfl (by decide) ?_
    refine mw_getI fl_X7_186 (dT d7_undo 25 rfl) ?_
    exact mw_iret rfl (dT d7_undo 26 rfl) ⟨_, rfl, T⟩
  · have T := T2 z
    refine mw_iconst (dT d7_undo 6 rfl) ?_
    exact mw_iret rfl (dT d7_undo 7 rfl) ⟨_, rfl, T⟩
theorem s7_keep {K : Int → mH → Prop} {h : mH} (T : ∀ h1 : mH, h1 = mSet h 30 0 0 0 → (OkV M7_copies [mR 41 0, mI 0, mR 43 0, mI 0] h1 (fun h2 => ∀ h3 : mH, h3 = mSet h2 30 0 27 1 → (OkI M7_many [mR 30 0] h3 (fun v1 h4 => K v1 h4))))) : OkI M7_keep [mR 30 0] h K := by
  refine Ok.of rfl (n := 0) rfl ?_
  show At (mPI K) M7_keep 0 [mR 30 0] [] h
  refine mw_aload_n (dT d7_keep 0 rfl) rfl (by decide) ?_
  refine mw_iconst (dT d7_keep 1 rfl) ?_
  have T := T _ rfl
  refine mw_putI fp_X7_69 (dT d7_keep 2 rfl) ?_
  refine mw_aload_n (dT d7_keep 3 rfl) rfl (by decide) ?_
  refine mw_getR fl_X7_45 (dT d7_keep 4 rfl) ?_
  refine mw_iconst (dT d7_keep 5 rfl) ?_
  refine mw_aload_n (dT d7_keep 6 rfl) rfl (by decide) ?_
  refine mw_getR fl_X7_51 (dT d7_keep 7 rfl) ?_
  refine mw_iconst (dT d7_keep 8 rfl) ?_
  refine mw_callSV mt_7_copies ml_X7_196 (by decide) (dT d7_keep 9 rfl) (as := [mR 41 _, mI _, mR 43 _, mI _]) rfl rfl T (fun h2 T => ?_)
  refine mw_aload_n (dT d7_keep 10 rfl) rfl (by decide) ?_
  refine mw_iconst (dT d7_keep 11 rfl) ?_
  have T := T _ rfl
  refine mw_putZ fp_X7_189 (dT d7_keep 12 rfl) (Or.inr rfl) ?_
  refine mw_aload_n (dT d7_keep 13 rfl) rfl (by decide) ?_
  refine mw_callVI mv_7_many ml_X7_200 (by decide) (dT d7_keep 14 rfl) (as := []) rfl rfl T (fun v1 h4 T => ?_)
  exact mw_iret rfl (dT d7_keep 15 rfl) ⟨_, rfl, T⟩
theorem s7_back {K : Int → mH → Prop} {h : mH} (T : ∀ h1 : mH, h1 = mSet h 30 0 0 0 → ((mInR (h1 30 0 27)) ∧ (¬ (h1 30 0 27) = 0 → (OkV M7_copies [mR 43 0, mI 0, mR 41 0, mI 0] h1 (fun h2 => ∀ h3 : mH, h3 = mSet h2 30 0 26 0 → (OkI M7_many [mR 30 0] h3 (fun v1 h4 => K v1 h4))))) ∧ ((h1 30 0 27) = 0 → (K ((-1)) h1)))) : OkI M7_back [mR 30 0] h K := by
  refine Ok.of rfl (n := 0) rfl ?_
  show At (mPI K) M7_back 0 [mR 30 0] [] h
  refine mw_aload_n (dT d7_back 0 rfl) rfl (by decide) ?_
  refine mw_iconst (dT d7_back 1 rfl) ?_
  have T := T _ rfl
  refine mw_putI fp_X7_69 (dT d7_back 2 rfl) ?_
  refine mw_aload_n (dT d7_back 3 rfl) rfl (by decide) ?_
  refine mw_getI fl_X7_189 (dT d7_back 4 rfl) ?_
  obtain ⟨z, T1, T2⟩ := T
  refine mw_if_ne 14 (dT d7_back 5 rfl) (by decide) z (fun z => ?_) (fun z => ?_)
  · have T := T1 z
    refine mw_aload_n (dT d7_back 8 rfl) rfl (by decide) ?_
    refine mw_getR fl_X7_51 (dT d7_back 9 rfl) ?_
    refine mw_iconst (dT d7_back 10 rfl) ?_
    refine mw_aload_n (dT d7_back 11 rfl) rfl (by decide) ?_
    refine mw_getR fl_X7_45 (dT d7_back 12 rfl) ?_
    refine mw_iconst (dT d7_back 13 rfl) ?_
    refine mw_callSV mt_7_copies ml_X7_196 (by decide) (dT d7_back 14 rfl) (as := [mR 43 _, mI _, mR 41 _, mI _]) rfl rfl T (fun h2 T => ?_)
    refine mw_aload_n (dT d7_back 15 rfl) rfl (by decide) ?_
    refine mw_iconst (dT d7_back 16 rfl) ?_
    have T := T _ rfl
    refine mw_putI fp_X7_186 (dT d7_back 17 rfl) ?_
    refine mw_aload_n (dT d7_back 18 rfl) rfl (by decide) ?_
    refine mw_callVI mv_7_many ml_X7_200 (by decide) (dT d7_back 19 rfl) (as := []) rfl rfl T (fun v1 h4 T => ?_)
    exact mw_iret rfl (dT d7_back 20 rfl) ⟨_, rfl, T⟩
  · have T := T2 z
    refine mw_iconst (dT d7_back 6 rfl) ?_
    exact mw_iret rfl (dT d7_back 7 rfl) ⟨_, rfl, T⟩
theorem s7_many {K : Int → mH → Prop} {h : mH} (T : K (h 41 0 310) h) : OkI M7_many [mR 30 0] h K := by
  refine Ok.of rfl (n := 0) rfl ?_
  show At (mPI K) M7_many 0 [mR 30 0] [] h
  refine mw_aload_n (dT d7_many 0 rfl) rfl (by decide) ?_
  refine mw_getR fl_X7_45 (dT d7_many 1 rfl) ?_
  refine mw_sipush (by decide) (dT d7_many 2 rfl) ?_
  refine mw_iaload ro_41 (dT d7_many 3 rfl) (by decide) ?_
  exact mw_iret rfl (dT d7_many 4 rfl) ⟨_, rfl, T⟩
theorem s7_isFactor {K : Int → mH → Prop} {x1 : Int} {h : mH} (T : (mInR x1) ∧ (x1 < 0 → (K 0 h)) ∧ (¬ x1 < 0 → (OkI M7_factors [mR 30 0] h (fun v1 h1 => (mInR x1 ∧ mInR v1) ∧ (v1 ≤ x1 → (K 0 h1)) ∧ (¬ v1 ≤ x1 → (K 1 h1)))))) : OkI M7_isFactor [mR 30 0, mI x1] h K := by
  refine Ok.of rfl (n := 0) rfl ?_
  show At (mPI K) M7_isFactor 0 [mR 30 0, mI x1] [] h
  refine mw_iload_n (dT d7_isFactor 0 rfl) rfl ?_
  obtain ⟨z, T1, T2⟩ := T
  refine mw_if_lt 16 (dT d7_isFactor 1 rfl) (by decide) z (fun z => ?_) (fun z => ?_)
  · have T := T1 z
    refine mw_iconst (dT d7_isFactor 8 rfl) ?_
    exact mw_zret rfl (dT d7_isFactor 9 rfl) (Or.inl rfl) ⟨_, rfl, T⟩
  · have T := T2 z
    refine mw_iload_n (dT d7_isFactor 2 rfl) rfl ?_
    refine mw_aload_n (dT d7_isFactor 3 rfl) rfl (by decide) ?_
    refine mw_callVI mv_7_factors ml_X7_193 (by decide) (dT d7_isFactor 4 rfl) (as := []) rfl rfl T (fun v1 h1 T => ?_)
    obtain ⟨z, T1, T2⟩ := T
    refine mw_icmp_ge 16 (dT d7_isFactor 5 rfl) (by decide) z (fun z => ?_) (fun z => ?_)
    · have T := T1 z
      refine mw_iconst (dT d7_isFactor 8 rfl) ?_
      exact mw_zret rfl (dT d7_isFactor 9 rfl) (Or.inl rfl) ⟨_, rfl, T⟩
    · have T := T2 z
      refine mw_iconst (dT d7_isFactor 6 rfl) ?_
      refine mw_goto 17 (dT d7_isFactor 7 rfl) (by decide) ?_
      exact mw_zret rfl (dT d7_isFactor 9 rfl) (Or.inr rfl) ⟨_, rfl, T⟩
theorem s7_isLevel {K : Int → mH → Prop} {x1 : Int} {x2 : Int} {h : mH} (T : OkI M7_isFactor [mR 30 0, mI x1] h (fun v1 h1 => (mInR v1) ∧ (v1 = 0 → (K 0 h1)) ∧ (¬ v1 = 0 → ((mInR x2) ∧ (x2 < 0 → (K 0 h1)) ∧ (¬ x2 < 0 → ((0 ≤ x1 ∧ x1 < 8) ∧ ((mInR x2 ∧ mInR (h1 35 0 x1)) ∧ ((h1 35 0 x1) ≤ x2 → (K 0 h1)) ∧ (¬ (h1 35 0 x1) ≤ x2 → (K 1 h1))))))))) : OkI M7_isLevel [mR 30 0, mI x1, mI x2] h K := by
  refine Ok.of rfl (n := 0) rfl ?_
  show At (mPI K) M7_isLevel 0 [mR 30 0, mI x1, mI x2] [] h
  refine mw_aload_n (dT d7_isLevel 0 rfl) rfl (by decide) ?_
  refine mw_iload_n (dT d7_isLevel 1 rfl) rfl ?_
  refine mw_callVI mv_7_isFactor ml_X7_203 (by decide) (dT d7_isLevel 2 rfl) (as := [mI _]) rfl rfl T (fun v1 h1 T => ?_)
  obtain ⟨z, T1, T2⟩ := T
  refine mw_if_eq 26 (dT d7_isLevel 3 rfl) (by decide) z (fun z => ?_) (fun z => ?_)
  · have T := T1 z
    refine mw_iconst (dT d7_isLevel 14 rfl) ?_
    exact mw_zret rfl (dT d7_isLevel 15 rfl) (Or.inl rfl) ⟨_, rfl, T⟩
  · have T := T2 z
    refine mw_iload_n (dT d7_isLevel 4 rfl) rfl ?_
    obtain ⟨z, T1, T2⟩ := T
    refine mw_if_lt 26 (dT d7_isLevel 5 rfl) (by decide) z (fun z => ?_) (fun z => ?_)
    · have T := T1 z
      refine mw_iconst (dT d7_isLevel 14 rfl) ?_
      exact mw_zret rfl (dT d7_isLevel 15 rfl) (Or.inl rfl) ⟨_, rfl, T⟩
    · have T := T2 z
      refine mw_iload_n (dT d7_isLevel 6 rfl) rfl ?_
      refine mw_aload_n (dT d7_isLevel 7 rfl) rfl (by decide) ?_
      refine mw_getR fl_X7_23 (dT d7_isLevel 8 rfl) ?_
      refine mw_iload_n (dT d7_isLevel 9 rfl) rfl ?_
      obtain ⟨z, T⟩ := T
      refine mw_iaload ro_35 (dT d7_isLevel 10 rfl) z ?_
      obtain ⟨z, T1, T2⟩ := T
      refine mw_icmp_ge 26 (dT d7_isLevel 11 rfl) (by decide) z (fun z => ?_) (fun z => ?_)
      · have T := T1 z
        refine mw_iconst (dT d7_isLevel 14 rfl) ?_
        exact mw_zret rfl (dT d7_isLevel 15 rfl) (Or.inl rfl) ⟨_, rfl, T⟩
      · have T := T2 z
        refine mw_iconst (dT d7_isLevel 12 rfl) ?_
        refine mw_goto 27 (dT d7_isLevel 13 rfl) (by decide) ?_
        exact mw_zret rfl (dT d7_isLevel 15 rfl) (Or.inr rfl) ⟨_, rfl, T⟩
theorem s7_isRisk {K : Int → mH → Prop} {x1 : Int} {h : mH} (T : (mInR x1) ∧ (x1 < 0 → (K 0 h)) ∧ (¬ x1 < 0 → (OkI M7_many [mR 30 0] h (fun v1 h1 => (mInR x1 ∧ mInR v1) ∧ (v1 ≤ x1 → (K 0 h1)) ∧ (¬ v1 ≤ x1 → (K 1 h1)))))) : OkI M7_isRisk [mR 30 0, mI x1] h K := by
  refine Ok.of rfl (n := 0) rfl ?_
  show At (mPI K) M7_isRisk 0 [mR 30 0, mI x1] [] h
  refine mw_iload_n (dT d7_isRisk 0 rfl) rfl ?_
  obtain ⟨z, T1, T2⟩ := T
  refine mw_if_lt 16 (dT d7_isRisk 1 rfl) (by decide) z (fun z => ?_) (fun z => ?_)
  · have T := T1 z
    refine mw_iconst (dT d7_isRisk 8 rfl) ?_
    exact mw_zret rfl (dT d7_isRisk 9 rfl) (Or.inl rfl) ⟨_, rfl, T⟩
  · have T := T2 z
    refine mw_iload_n (dT d7_isRisk 2 rfl) rfl ?_
    refine mw_aload_n (dT d7_isRisk 3 rfl) rfl (by decide) ?_
    refine mw_callVI mv_7_many ml_X7_200 (by decide) (dT d7_isRisk 4 rfl) (as := []) rfl rfl T (fun v1 h1 T => ?_)
    obtain ⟨z, T1, T2⟩ := T
    refine mw_icmp_ge 16 (dT d7_isRisk 5 rfl) (by decide) z (fun z => ?_) (fun z => ?_)
    · have T := T1 z
      refine mw_iconst (dT d7_isRisk 8 rfl) ?_
      exact mw_zret rfl (dT d7_isRisk 9 rfl) (Or.inl rfl) ⟨_, rfl, T⟩
    · have T := T2 z
      refine mw_iconst (dT d7_isRisk 6 rfl) ?_
      refine mw_goto 17 (dT d7_isRisk 7 rfl) (by decide) ?_
      exact mw_zret rfl (dT d7_isRisk 9 rfl) (Or.inr rfl) ⟨_, rfl, T⟩
theorem s7_isJoined {K : Int → mH → Prop} {x1 : Int} {x2 : Int} {h : mH} (T : (mInR x2) ∧ (x2 < 0 → (K 0 h)) ∧ (¬ x2 < 0 → ((0 ≤ (304 + x1) ∧ (304 + x1) < 314) ∧ ((mInR (mAnd (mShr (h 41 0 (304 + x1)) x2) 1)) ∧ (¬ (mAnd (mShr (h 41 0 (304 + x1)) x2) 1) = 1 → (K 0 h)) ∧ ((mAnd (mShr (h 41 0 (304 + x1)) x2) 1) = 1 → (K 1 h)))))) : OkI M7_isJoined [mR 30 0, mI x1, mI x2] h K := by
  refine Ok.of rfl (n := 0) rfl ?_
  show At (mPI K) M7_isJoined 0 [mR 30 0, mI x1, mI x2] [] h
  refine mw_iload_n (dT d7_isJoined 0 rfl) rfl ?_
  obtain ⟨z, T1, T2⟩ := T
  refine mw_if_lt 26 (dT d7_isJoined 1 rfl) (by decide) z (fun z => ?_) (fun z => ?_)
  · have T := T1 z
    refine mw_iconst (dT d7_isJoined 16 rfl) ?_
    exact mw_zret rfl (dT d7_isJoined 17 rfl) (Or.inl rfl) ⟨_, rfl, T⟩
  · have T := T2 z
    refine mw_aload_n (dT d7_isJoined 2 rfl) rfl (by decide) ?_
    refine mw_getR fl_X7_45 (dT d7_isJoined 3 rfl) ?_
    refine mw_sipush (by decide) (dT d7_isJoined 4 rfl) ?_
    refine mw_iload_n (dT d7_isJoined 5 rfl) rfl ?_
    refine mw_iadd (dT d7_isJoined 6 rfl) ?_
    obtain ⟨z, T⟩ := T
    refine mw_iaload ro_41 (dT d7_isJoined 7 rfl) z ?_
    refine mw_iload_n (dT d7_isJoined 8 rfl) rfl ?_
    refine mw_ishr (dT d7_isJoined 9 rfl) ?_
    refine mw_iconst (dT d7_isJoined 10 rfl) ?_
    refine mw_iand (dT d7_isJoined 11 rfl) ?_
    refine mw_iconst (dT d7_isJoined 12 rfl) ?_
    obtain ⟨z, T1, T2⟩ := T
    refine mw_icmp_ne 26 (dT d7_isJoined 13 rfl) (by decide) ⟨z, by decide⟩ (fun z => ?_) (fun z => ?_)
    · have T := T1 z
      refine mw_iconst (dT d7_isJoined 16 rfl) ?_
      exact mw_zret rfl (dT d7_isJoined 17 rfl) (Or.inl rfl) ⟨_, rfl, T⟩
    · have T := T2 z
      refine mw_iconst (dT d7_isJoined 14 rfl) ?_
      refine mw_goto 27 (dT d7_isJoined 15 rfl) (by decide) ?_
      exact mw_zret rfl (dT d7_isJoined 17 rfl) (Or.inr rfl) ⟨_, rfl, T⟩
abbrev A7_firstOf_2 (K : Int → mH → Prop) (x1 x2 x3 : Int) (h : mH) : Prop := At (mPI K) M7_firstOf 2 [mR 30 0, mI x1, mI x2, mI x3] [] h
theorem s7_firstOf_2 {K : Int → mH → Prop} {x1 x2 x3 : Int} {h : mH} (T : OkI M7_isJoined [mR 30 0, mI x1, mI (x3 - 1)] h (fun v1 h1 => (mInR v1) ∧ (v1 = 0 → (K x3 h1)) ∧ (¬ v1 = 0 → (A7_firstOf_2 K x1 x2 (x3 + (-1)) h1)))) : A7_firstOf_2 K x1 x2 x3 h := by
  refine mw_aload_n (dT d7_firstOf 2 rfl) rfl (by decide) ?_
  refine mw_iload_n (dT d7_firstOf 3 rfl) rfl ?_
  refine mw_iload_n (dT d7_firstOf 4 rfl) rfl ?_
  refine mw_iconst (dT d7_firstOf 5 rfl) ?_
  refine mw_isub (dT d7_firstOf 6 rfl) ?_
  refine mw_callVI mv_7_isJoined ml_X7_206 (by decide) (dT d7_firstOf 7 rfl) (as := [mI _, mI _]) rfl rfl T (fun v1 h1 T => ?_)
  obtain ⟨z, T1, T2⟩ := T
  refine mw_if_eq 19 (dT d7_firstOf 8 rfl) (by decide) z (fun z => ?_) (fun z => ?_)
  · have T := T1 z
    refine mw_iload_n (dT d7_firstOf 11 rfl) rfl ?_
    exact mw_iret rfl (dT d7_firstOf 12 rfl) ⟨_, rfl, T⟩
  · have T := T2 z
    refine mw_iinc (dT d7_firstOf 9 rfl) rfl (by decide) ?_
    refine mw_goto 2 (dT d7_firstOf 10 rfl) (by decide) ?_
    exact T
theorem s7_firstOf {K : Int → mH → Prop} {x1 : Int} {x2 : Int} {h : mH} (T : A7_firstOf_2 K x1 x2 x2 h) : OkI M7_firstOf [mR 30 0, mI x1, mI x2] h K := by
  refine Ok.of rfl (n := 1) rfl ?_
  show At (mPI K) M7_firstOf 0 [mR 30 0, mI x1, mI x2, mU] [] h
  refine mw_iload_n (dT d7_firstOf 0 rfl) rfl ?_
  refine mw_istore_n (dT d7_firstOf 1 rfl) (by decide) ?_
  exact T
abbrev A7_lastOf_2 (K : Int → mH → Prop) (x1 x2 x3 : Int) (h : mH) : Prop := At (mPI K) M7_lastOf 2 [mR 30 0, mI x1, mI x2, mI x3] [] h
theorem s7_lastOf_2 {K : Int → mH → Prop} {x1 x2 x3 : Int} {h : mH} (T : OkI M7_isJoined [mR 30 0, mI x1, mI x3] h (fun v1 h1 => (mInR v1) ∧ (v1 = 0 → (K x3 h1)) ∧ (¬ v1 = 0 → (A7_lastOf_2 K x1 x2 (x3 + 1) h1)))) : A7_lastOf_2 K x1 x2 x3 h := by
  refine mw_aload_n (dT d7_lastOf 2 rfl) rfl (by decide) ?_
  refine mw_iload_n (dT d7_lastOf 3 rfl) rfl ?_
  refine mw_iload_n (dT d7_lastOf 4 rfl) rfl ?_
  refine mw_callVI mv_7_isJoined ml_X7_206 (by decide) (dT d7_lastOf 5 rfl) (as := [mI _, mI _]) rfl rfl T (fun v1 h1 T => ?_)
  obtain ⟨z, T1, T2⟩ := T
  refine mw_if_eq 17 (dT d7_lastOf 6 rfl) (by decide) z (fun z => ?_) (fun z => ?_)
  · have T := T1 z
    refine mw_iload_n (dT d7_lastOf 9 rfl) rfl ?_
    exact mw_iret rfl (dT d7_lastOf 10 rfl) ⟨_, rfl, T⟩
  · have T := T2 z
    refine mw_iinc (dT d7_lastOf 7 rfl) rfl (by decide) ?_
    refine mw_goto 2 (dT d7_lastOf 8 rfl) (by decide) ?_
    exact T
theorem s7_lastOf {K : Int → mH → Prop} {x1 : Int} {x2 : Int} {h : mH} (T : A7_lastOf_2 K x1 x2 x2 h) : OkI M7_lastOf [mR 30 0, mI x1, mI x2] h K := by
  refine Ok.of rfl (n := 1) rfl ?_
  show At (mPI K) M7_lastOf 0 [mR 30 0, mI x1, mI x2, mU] [] h
  refine mw_iload_n (dT d7_lastOf 0 rfl) rfl ?_
  refine mw_istore_n (dT d7_lastOf 1 rfl) (by decide) ?_
  exact T
theorem s7_relativityOf {K : Int → mH → Prop} {x1 : Int} {x2 : Int} {h : mH} (T : (0 ≤ ((280 + (6 * x1)) + x2) ∧ ((280 + (6 * x1)) + x2) < 314) ∧ (K (h 41 0 ((280 + (6 * x1)) + x2)) h)) : OkI M7_relativityOf [mR 30 0, mI x1, mI x2] h K := by
  refine Ok.of rfl (n := 0) rfl ?_
  show At (mPI K) M7_relativityOf 0 [mR 30 0, mI x1, mI x2] [] h
  refine mw_aload_n (dT d7_relativityOf 0 rfl) rfl (by decide) ?_
  refine mw_getR fl_X7_45 (dT d7_relativityOf 1 rfl) ?_
  refine mw_sipush (by decide) (dT d7_relativityOf 2 rfl) ?_
  refine mw_bipush (by decide) (dT d7_relativityOf 3 rfl) ?_
  refine mw_iload_n (dT d7_relativityOf 4 rfl) rfl ?_
  refine mw_imul (dT d7_relativityOf 5 rfl) ?_
  refine mw_iadd (dT d7_relativityOf 6 rfl) ?_
  refine mw_iload_n (dT d7_relativityOf 7 rfl) rfl ?_
  refine mw_iadd (dT d7_relativityOf 8 rfl) ?_
  obtain ⟨z, T⟩ := T
  refine mw_iaload ro_41 (dT d7_relativityOf 9 rfl) z ?_
  exact mw_iret rfl (dT d7_relativityOf 10 rfl) ⟨_, rfl, T⟩
abbrev A7_relates_8 (K : mH → Prop) (x1 x2 x3 x4 : Int) (h : mH) : Prop := At (mPV K) M7_relates 8 [mR 30 0, mI x1, mI x2, mI x3, mI x4] [] h
theorem s7_relates_8 {K : mH → Prop} {x1 x2 x3 x4 : Int} {h : mH} (T : OkI M7_lastOf [mR 30 0, mI x1, mI x2] h (fun v1 h1 => (mInR x4 ∧ mInR v1) ∧ (v1 < x4 → (K h1)) ∧ (¬ v1 < x4 → ((0 ≤ ((280 + (6 * x1)) + x4) ∧ ((280 + (6 * x1)) + x4) < 314) ∧ (∀ h2 : mH, h2 = mSet h1 41 0 ((280 + (6 * x1)) + x4) x3 → (A7_relates_8 K x1 x2 x3 (x4 + 1) h2)))))) : A7_relates_8 K x1 x2 x3 x4 h := by
  refine mw_iload (dT d7_relates 5 rfl) rfl ?_
  refine mw_aload_n (dT d7_relates 6 rfl) rfl (by decide) ?_
  refine mw_iload_n (dT d7_relates 7 rfl) rfl ?_
  refine mw_iload_n (dT d7_relates 8 rfl) rfl ?_
  refine mw_callVI mv_7_lastOf ml_X7_213 (by decide) (dT d7_relates 9 rfl) (as := [mI _, mI _]) rfl rfl T (fun v1 h1 T => ?_)
  obtain ⟨z, T1, T2⟩ := T
  refine mw_icmp_gt 42 (dT d7_relates 10 rfl) (by decide) z (fun z => ?_) (fun z => ?_)
  · have T := T1 z
    exact mw_vret rfl (dT d7_relates 24 rfl) ⟨rfl, T⟩
  · have T := T2 z
    refine mw_aload_n (dT d7_relates 11 rfl) rfl (by decide) ?_
    refine mw_getR fl_X7_45 (dT d7_relates 12 rfl) ?_
    refine mw_sipush (by decide) (dT d7_relates 13 rfl) ?_
    refine mw_bipush (by decide) (dT d7_relates 14 rfl) ?_
    refine mw_iload_n (dT d7_relates 15 rfl) rfl ?_
    refine mw_imul (dT d7_relates 16 rfl) ?_
    refine mw_iadd (dT d7_relates 17 rfl) ?_
    refine mw_iload (dT d7_relates 18 rfl) rfl ?_
    refine mw_iadd (dT d7_relates 19 rfl) ?_
    refine mw_iload_n (dT d7_relates 20 rfl) rfl ?_
    obtain ⟨z, T⟩ := T
    have T := T _ rfl
    refine mw_iastore ro_41 (dT d7_relates 21 rfl) z ?_
    refine mw_iinc (dT d7_relates 22 rfl) rfl (by decide) ?_
    refine mw_goto 8 (dT d7_relates 23 rfl) (by decide) ?_
    exact T
theorem s7_relates {K : mH → Prop} {x1 : Int} {x2 : Int} {x3 : Int} {h : mH} (T : OkI M7_firstOf [mR 30 0, mI x1, mI x2] h (fun v1 h1 => A7_relates_8 K x1 x2 x3 v1 h1)) : OkV M7_relates [mR 30 0, mI x1, mI x2, mI x3] h K := by
  refine Ok.of rfl (n := 1) rfl ?_
  show At (mPV K) M7_relates 0 [mR 30 0, mI x1, mI x2, mI x3, mU] [] h
  refine mw_aload_n (dT d7_relates 0 rfl) rfl (by decide) ?_
  refine mw_iload_n (dT d7_relates 1 rfl) rfl ?_
  refine mw_iload_n (dT d7_relates 2 rfl) rfl ?_
  refine mw_callVI mv_7_firstOf ml_X7_210 (by decide) (dT d7_relates 3 rfl) (as := [mI _, mI _]) rfl rfl T (fun v1 h1 T => ?_)
  refine mw_istore (dT d7_relates 4 rfl) (by decide) ?_
  exact T
theorem s7_within {K : Int → mH → Prop} {x0 : Int} {x2 : Int} {x4 : Int} {h : mH} (T : (mInL x0 ∧ mInL x2) ∧ (x2 ≤ x0 → ((mInL x0 ∧ mInL x4) ∧ (x0 ≤ x4 → (K x0 h)) ∧ (¬ x0 ≤ x4 → (K x4 h)))) ∧ (¬ x2 ≤ x0 → (K x2 h))) : OkJ M7_within [mJ x0, mJ x2, mJ x4] h K := by
  refine Ok.of rfl (n := 0) rfl ?_
  show At (mPJ K) M7_within 0 [mJ x0, mU, mJ x2, mU, mJ x4, mU] [] h
  refine mw_lload_n (dT d7_within 0 rfl) rfl ?_
  refine mw_lload_n (dT d7_within 1 rfl) rfl ?_
  obtain ⟨z, T1, T2⟩ := T
  refine mw_lif_ge 10 (dT d7_within 2 rfl) (dT d7_within 3 rfl) (by decide) z (fun z => ?_) (fun z => ?_)
  · have T := T1 z
    refine mw_lload_n (dT d7_within 6 rfl) rfl ?_
    refine mw_lload (dT d7_within 7 rfl) rfl ?_
    obtain ⟨z, T1, T2⟩ := T
    refine mw_lif_le 22 (dT d7_within 8 rfl) (dT d7_within 9 rfl) (by decide) z (fun z => ?_) (fun z => ?_)
    · have T := T1 z
      refine mw_lload_n (dT d7_within 12 rfl) rfl ?_
      exact mw_lret rfl (dT d7_within 13 rfl) ⟨_, rfl, T⟩
    · have T := T2 z
      refine mw_lload (dT d7_within 10 rfl) rfl ?_
      refine mw_goto 23 (dT d7_within 11 rfl) (by decide) ?_
      exact mw_lret rfl (dT d7_within 13 rfl) ⟨_, rfl, T⟩
  · have T := T2 z
    refine mw_lload_n (dT d7_within 4 rfl) rfl ?_
    refine mw_goto 23 (dT d7_within 5 rfl) (by decide) ?_
    exact mw_lret rfl (dT d7_within 13 rfl) ⟨_, rfl, T⟩
theorem s7_premiumBy {K : Int → mH → Prop} {x1 : Int} {x2 : Int} {h : mH} (T : OkI M7_factors [mR 30 0] h (fun v1 h1 => OkJ M7_premiumBehind [mR 30 0, mI x1, mI x2, mI v1] h1 (fun v2 h2 => (mInR x1 ∧ mInR (h2 41 0 312)) ∧ (x1 < (h2 41 0 312) → (K v2 h2)) ∧ (¬ x1 < (h2 41 0 312) → ((mInR (h2 41 0 313)) ∧ ((mInL (v2 * (h2 41 0 313))) ∧ (K (v2 - (Int.tdiv (v2 * (h2 41 0 313)) 1000)) h2))))))) : OkJ M7_premiumBy [mR 30 0, mI x1, mI x2] h K := by
  refine Ok.of rfl (n := 2) rfl ?_
  show At (mPJ K) M7_premiumBy 0 [mR 30 0, mI x1, mI x2, mU, mU] [] h
  refine mw_aload_n (dT d7_premiumBy 0 rfl) rfl (by decide) ?_
  refine mw_iload_n (dT d7_premiumBy 1 rfl) rfl ?_
  refine mw_iload_n (dT d7_premiumBy 2 rfl) rfl ?_
  refine mw_aload_n (dT d7_premiumBy 3 rfl) rfl (by decide) ?_
  refine mw_callVI mv_7_factors ml_X7_193 (by decide) (dT d7_premiumBy 4 rfl) (as := []) rfl rfl T (fun v1 h1 T => ?_)
  refine mw_callVJ mv_7_premiumBehind ml_X7_216 (by decide) (dT d7_premiumBy 5 rfl) (as := [mI _, mI _, mI _]) rfl rfl T (fun v2 h2 T => ?_)
  refine mw_lstore_n (dT d7_premiumBy 6 rfl) (by decide) ?_
  refine mw_iload_n (dT d7_premiumBy 7 rfl) rfl ?_
  refine mw_aload_n (dT d7_premiumBy 8 rfl) rfl (by decide) ?_
  refine mw_getR fl_X7_45 (dT d7_premiumBy 9 rfl) ?_
  refine mw_sipush (by decide) (dT d7_premiumBy 10 rfl) ?_
  refine mw_iaload ro_41 (dT d7_premiumBy 11 rfl) (by decide) ?_
  obtain ⟨z, T1, T2⟩ := T
  refine mw_icmp_lt 43 (dT d7_premiumBy 12 rfl) (by decide) z (fun z => ?_) (fun z => ?_)
  · have T := T1 z
    refine mw_lload_n (dT d7_premiumBy 25 rfl) rfl ?_
    exact mw_lret rfl (dT d7_premiumBy 26 rfl) ⟨_, rfl, T⟩
  · have T := T2 z
    refine mw_lload_n (dT d7_premiumBy 13 rfl) rfl ?_
    refine mw_lload_n (dT d7_premiumBy 14 rfl) rfl ?_
    refine mw_aload_n (dT d7_premiumBy 15 rfl) rfl (by decide) ?_
    refine mw_getR fl_X7_45 (dT d7_premiumBy 16 rfl) ?_
    refine mw_sipush (by decide) (dT d7_premiumBy 17 rfl) ?_
    refine mw_iaload ro_41 (dT d7_premiumBy 18 rfl) (by decide) ?_
    obtain ⟨z, T⟩ := T
    refine mw_i2l (dT d7_premiumBy 19 rfl) z ?_
    refine mw_lmul (dT d7_premiumBy 20 rfl) ?_
    refine mw_ldc2 kl_X7_220 (dT d7_premiumBy 21 rfl) ?_
    obtain ⟨z, T⟩ := T
    refine mw_ldiv (dT d7_premiumBy 22 rfl) ⟨z, by decide, by decide⟩ ?_
    refine mw_lsub (dT d7_premiumBy 23 rfl) ?_
    refine mw_goto 44 (dT d7_premiumBy 24 rfl) (by decide) ?_
    exact mw_lret rfl (dT d7_premiumBy 26 rfl) ⟨_, rfl, T⟩
abbrev A7_premiumBehind_17 (K : Int → mH → Prop) (x1 x2 x3 x4 x6 : Int) (h : mH) : Prop := At (mPJ K) M7_premiumBehind 17 [mR 30 0, mI x1, mI x2, mI x3, mJ x4, mU, mI x6, mU] [] h
theorem s7_premiumBehind_17 {K : Int → mH → Prop} {x1 x2 x3 x4 x6 : Int} {h : mH} (T : (mInR x6 ∧ mInR x3) ∧ (x3 ≤ x6 → (K x4 h)) ∧ (¬ x3 ≤ x6 → ((mInR x2) ∧ (¬ x2 = ((-1)) → ((0 ≤ (x2 + x6) ∧ (x2 + x6) < 314) ∧ (OkI M7_relativityOf [mR 30 0, mI x6, mI (h 41 0 (x2 + x6))] h (fun v1 h1 => (mInR v1) ∧ ((mInL (x4 * v1)) ∧ (A7_premiumBehind_17 K x1 x2 x3 (Int.tdiv (x4 * v1) 10000) (x6 + 1) h1)))))) ∧ (x2 = ((-1)) → ((0 ≤ x6 ∧ x6 < 4) ∧ (OkI M7_relativityOf [mR 30 0, mI x6, mI (h 45 0 x6)] h (fun v2 h2 => (mInR v2) ∧ ((mInL (x4 * v2)) ∧ (A7_premiumBehind_17 K x1 x2 x3 (Int.tdiv (x4 * v2) 10000) (x6 + 1) h2))))))))) : A7_premiumBehind_17 K x1 x2 x3 x4 x6 h := by
  refine mw_iload (dT d7_premiumBehind 11 rfl) rfl ?_
  refine mw_iload_n (dT d7_premiumBehind 12 rfl) rfl ?_
  obtain ⟨z, T1, T2⟩ := T
  refine mw_icmp_ge 73 (dT d7_premiumBehind 13 rfl) (by decide) z (fun z => ?_) (fun z => ?_)
  · have T := T1 z
    refine mw_lload (dT d7_premiumBehind 41 rfl) rfl ?_
    exact mw_lret rfl (dT d7_premiumBehind 42 rfl) ⟨_, rfl, T⟩
  · have T := T2 z
    refine mw_iload_n (dT d7_premiumBehind 14 rfl) rfl ?_
    refine mw_iconst (dT d7_premiumBehind 15 rfl) ?_
    obtain ⟨z, T1, T2⟩ := T
    refine mw_icmp_ne 38 (dT d7_premiumBehind 16 rfl) (by decide) ⟨z, by decide⟩ (fun z => ?_) (fun z => ?_)
    · have T := T1 z
      refine mw_aload_n (dT d7_premiumBehind 22 rfl) rfl (by decide) ?_
      refine mw_getR fl_X7_45 (dT d7_premiumBehind 23 rfl) ?_
      refine mw_iload_n (dT d7_premiumBehind 24 rfl) rfl ?_
      refine mw_iload (dT d7_premiumBehind 25 rfl) rfl ?_
      refine mw_iadd (dT d7_premiumBehind 26 rfl) ?_
      obtain ⟨z, T⟩ := T
      refine mw_iaload ro_41 (dT d7_premiumBehind 27 rfl) z ?_
      refine mw_istore (dT d7_premiumBehind 28 rfl) (by decide) ?_
      refine mw_lload (dT d7_premiumBehind 29 rfl) rfl ?_
      refine mw_aload_n (dT d7_premiumBehind 30 rfl) rfl (by decide) ?_
      refine mw_iload (dT d7_premiumBehind 31 rfl) rfl ?_
      refine mw_iload (dT d7_premiumBehind 32 rfl) rfl ?_
      refine mw_callVI mv_7_relativityOf ml_X7_222 (by decide) (dT d7_premiumBehind 33 rfl) (as := [mI _, mI _]) rfl rfl T (fun v1 h1 T => ?_)
      obtain ⟨z, T⟩ := T
      refine mw_i2l (dT d7_premiumBehind 34 rfl) z ?_
      refine mw_lmul (dT d7_premiumBehind 35 rfl) ?_
      refine mw_ldc2 kl_X7_225 (dT d7_premiumBehind 36 rfl) ?_
      obtain ⟨z, T⟩ := T
      refine mw_ldiv (dT d7_premiumBehind 37 rfl) ⟨z, by decide, by decide⟩ ?_
      refine mw_lstore (dT d7_premiumBehind 38 rfl) (by decide) ?_
      refine mw_iinc (dT d7_premiumBehind 39 rfl) rfl (by decide) ?_
      refine mw_goto 17 (dT d7_premiumBehind 40 rfl) (by decide) ?_
      exact At.forget [7] T
    · have T := T2 z
      refine mw_aload_n (dT d7_premiumBehind 17 rfl) rfl (by decide) ?_
      refine mw_getR fl_X7_57 (dT d7_premiumBehind 18 rfl) ?_
      refine mw_iload (dT d7_premiumBehind 19 rfl) rfl ?_
      obtain ⟨z, T⟩ := T
      refine mw_iaload ro_45 (dT d7_premiumBehind 20 rfl) z ?_
      refine mw_goto 47 (dT d7_premiumBehind 21 rfl) (by decide) ?_
      refine mw_istore (dT d7_premiumBehind 28 rfl) (by decide) ?_
      refine mw_lload (dT d7_premiumBehind 29 rfl) rfl ?_
      refine mw_aload_n (dT d7_premiumBehind 30 rfl) rfl (by decide) ?_
      refine mw_iload (dT d7_premiumBehind 31 rfl) rfl ?_
      refine mw_iload (dT d7_premiumBehind 32 rfl) rfl ?_
      refine mw_callVI mv_7_relativityOf ml_X7_222 (by decide) (dT d7_premiumBehind 33 rfl) (as := [mI _, mI _]) rfl rfl T (fun v2 h2 T => ?_)
      obtain ⟨z, T⟩ := T
      refine mw_i2l (dT d7_premiumBehind 34 rfl) z ?_
      refine mw_lmul (dT d7_premiumBehind 35 rfl) ?_
      refine mw_ldc2 kl_X7_225 (dT d7_premiumBehind 36 rfl) ?_
      obtain ⟨z, T⟩ := T
      refine mw_ldiv (dT d7_premiumBehind 37 rfl) ⟨z, by decide, by decide⟩ ?_
      refine mw_lstore (dT d7_premiumBehind 38 rfl) (by decide) ?_
      refine mw_iinc (dT d7_premiumBehind 39 rfl) rfl (by decide) ?_
      refine mw_goto 17 (dT d7_premiumBehind 40 rfl) (by decide) ?_
      exact At.forget [7] T
theorem s7_premiumBehind {K : Int → mH → Prop} {x1 : Int} {x2 : Int} {x3 : Int} {h : mH} (T : (mInR x1) ∧ ((mInR (h 41 0 308)) ∧ (A7_premiumBehind_17 K x1 x2 x3 (x1 * (h 41 0 308)) 0 h))) : OkJ M7_premiumBehind [mR 30 0, mI x1, mI x2, mI x3] h K := by
  refine Ok.of rfl (n := 4) rfl ?_
  show At (mPJ K) M7_premiumBehind 0 [mR 30 0, mI x1, mI x2, mI x3, mU, mU, mU, mU] [] h
  refine mw_iload_n (dT d7_premiumBehind 0 rfl) rfl ?_
  obtain ⟨z, T⟩ := T
  refine mw_i2l (dT d7_premiumBehind 1 rfl) z ?_
  refine mw_aload_n (dT d7_premiumBehind 2 rfl) rfl (by decide) ?_
  refine mw_getR fl_X7_45 (dT d7_premiumBehind 3 rfl) ?_
  refine mw_sipush (by decide) (dT d7_premiumBehind 4 rfl) ?_
  refine mw_iaload ro_41 (dT d7_premiumBehind 5 rfl) (by decide) ?_
  obtain ⟨z, T⟩ := T
  refine mw_i2l (dT d7_premiumBehind 6 rfl) z ?_
  refine mw_lmul (dT d7_premiumBehind 7 rfl) ?_
  refine mw_lstore (dT d7_premiumBehind 8 rfl) (by decide) ?_
  refine mw_iconst (dT d7_premiumBehind 9 rfl) ?_
  refine mw_istore (dT d7_premiumBehind 10 rfl) (by decide) ?_
  exact T
theorem s7_premiumOf {K : Int → mH → Prop} {x1 : Int} {h : mH} (T : (0 ≤ ((7 * x1) + 0) ∧ ((7 * x1) + 0) < 314) ∧ (OkJ M7_premiumBy [mR 30 0, mI (h 41 0 ((7 * x1) + 0)), mI ((7 * x1) + 3)] h (fun v1 h1 => K v1 h1))) : OkJ M7_premiumOf [mR 30 0, mI x1] h K := by
  refine Ok.of rfl (n := 0) rfl ?_
  show At (mPJ K) M7_premiumOf 0 [mR 30 0, mI x1] [] h
  refine mw_aload_n (dT d7_premiumOf 0 rfl) rfl (by decide) ?_
  refine mw_aload_n (dT d7_premiumOf 1 rfl) rfl (by decide) ?_
  refine mw_getR fl_X7_45 (dT d7_premiumOf 2 rfl) ?_
  refine mw_bipush (by decide) (dT d7_premiumOf 3 rfl) ?_
  refine mw_iload_n (dT d7_premiumOf 4 rfl) rfl ?_
  refine mw_imul (dT d7_premiumOf 5 rfl) ?_
  refine mw_iconst (dT d7_premiumOf 6 rfl) ?_
  refine mw_iadd (dT d7_premiumOf 7 rfl) ?_
  obtain ⟨z, T⟩ := T
  refine mw_iaload ro_41 (dT d7_premiumOf 8 rfl) z ?_
  refine mw_bipush (by decide) (dT d7_premiumOf 9 rfl) ?_
  refine mw_iload_n (dT d7_premiumOf 10 rfl) rfl ?_
  refine mw_imul (dT d7_premiumOf 11 rfl) ?_
  refine mw_iconst (dT d7_premiumOf 12 rfl) ?_
  refine mw_iadd (dT d7_premiumOf 13 rfl) ?_
  refine mw_callVJ mv_7_premiumBy ml_X7_227 (by decide) (dT d7_premiumOf 14 rfl) (as := [mI _, mI _]) rfl rfl T (fun v1 h1 T => ?_)
  exact mw_lret rfl (dT d7_premiumOf 15 rfl) ⟨_, rfl, T⟩
theorem s7_isOf {K : Int → mH → Prop} {x1 : Int} {x2 : Int} {x3 : Int} {h : mH} (T : (0 ≤ (((7 * x1) + 3) + x2) ∧ (((7 * x1) + 3) + x2) < 314) ∧ (OkI M7_firstOf [mR 30 0, mI x2, mI (h 41 0 (((7 * x1) + 3) + x2))] h (fun v1 h1 => OkI M7_firstOf [mR 30 0, mI x2, mI x3] h1 (fun v2 h2 => (mInR v1 ∧ mInR v2) ∧ (¬ v1 = v2 → (K 0 h2)) ∧ (v1 = v2 → (K 1 h2)))))) : OkI M7_isOf [mR 30 0, mI x1, mI x2, mI x3] h K := by
  refine Ok.of rfl (n := 0) rfl ?_
  show At (mPI K) M7_isOf 0 [mR 30 0, mI x1, mI x2, mI x3] [] h
  refine mw_aload_n (dT d7_isOf 0 rfl) rfl (by decide) ?_
  refine mw_iload_n (dT d7_isOf 1 rfl) rfl ?_
  refine mw_aload_n (dT d7_isOf 2 rfl) rfl (by decide) ?_
  refine mw_getR fl_X7_45 (dT d7_isOf 3 rfl) ?_
  refine mw_bipush (by decide) (dT d7_isOf 4 rfl) ?_
  refine mw_iload_n (dT d7_isOf 5 rfl) rfl ?_
  refine mw_imul (dT d7_isOf 6 rfl) ?_
  refine mw_iconst (dT d7_isOf 7 rfl) ?_
  refine mw_iadd (dT d7_isOf 8 rfl) ?_
  refine mw_iload_n (dT d7_isOf 9 rfl) rfl ?_
  refine mw_iadd (dT d7_isOf 10 rfl) ?_
  obtain ⟨z, T⟩ := T
  refine mw_iaload ro_41 (dT d7_isOf 11 rfl) z ?_
  refine mw_callVI mv_7_firstOf ml_X7_210 (by decide) (dT d7_isOf 12 rfl) (as := [mI _, mI _]) rfl rfl T (fun v1 h1 T => ?_)
  refine mw_aload_n (dT d7_isOf 13 rfl) rfl (by decide) ?_
  refine mw_iload_n (dT d7_isOf 14 rfl) rfl ?_
  refine mw_iload_n (dT d7_isOf 15 rfl) rfl ?_
  refine mw_callVI mv_7_firstOf ml_X7_210 (by decide) (dT d7_isOf 16 rfl) (as := [mI _, mI _]) rfl rfl T (fun v2 h2 T => ?_)
  obtain ⟨z, T1, T2⟩ := T
  refine mw_icmp_ne 31 (dT d7_isOf 17 rfl) (by decide) z (fun z => ?_) (fun z => ?_)
  · have T := T1 z
    refine mw_iconst (dT d7_isOf 20 rfl) ?_
    exact mw_zret rfl (dT d7_isOf 21 rfl) (Or.inl rfl) ⟨_, rfl, T⟩
  · have T := T2 z
    refine mw_iconst (dT d7_isOf 18 rfl) ?_
    refine mw_goto 32 (dT d7_isOf 19 rfl) (by decide) ?_
    exact mw_zret rfl (dT d7_isOf 21 rfl) (Or.inr rfl) ⟨_, rfl, T⟩
abbrev A7_risksOf_5 (K : Int → mH → Prop) (x1 x2 x3 x4 : Int) (h : mH) : Prop := At (mPI K) M7_risksOf 5 [mR 30 0, mI x1, mI x2, mI x3, mI x4] [] h
theorem s7_risksOf_5 {K : Int → mH → Prop} {x1 x2 x3 x4 : Int} {h : mH} (T : OkI M7_many [mR 30 0] h (fun v1 h1 => (mInR x4 ∧ mInR v1) ∧ (v1 ≤ x4 → (K x3 h1)) ∧ (¬ v1 ≤ x4 → (OkI M7_isOf [mR 30 0, mI x4, mI x1, mI x2] h1 (fun v2 h2 => (mInR v2) ∧ (v2 = 0 → (A7_risksOf_5 K x1 x2 (x3 + 0) (x4 + 1) h2)) ∧ (¬ v2 = 0 → (A7_risksOf_5 K x1 x2 (x3 + 1) (x4 + 1) h2))))))) : A7_risksOf_5 K x1 x2 x3 x4 h := by
  refine mw_iload (dT d7_risksOf 4 rfl) rfl ?_
  refine mw_aload_n (dT d7_risksOf 5 rfl) rfl (by decide) ?_
  refine mw_callVI mv_7_many ml_X7_200 (by decide) (dT d7_risksOf 6 rfl) (as := []) rfl rfl T (fun v1 h1 T => ?_)
  obtain ⟨z, T1, T2⟩ := T
  refine mw_icmp_ge 39 (dT d7_risksOf 7 rfl) (by decide) z (fun z => ?_) (fun z => ?_)
  · have T := T1 z
    refine mw_iload_n (dT d7_risksOf 22 rfl) rfl ?_
    exact mw_iret rfl (dT d7_risksOf 23 rfl) ⟨_, rfl, T⟩
  · have T := T2 z
    refine mw_iload_n (dT d7_risksOf 8 rfl) rfl ?_
    refine mw_aload_n (dT d7_risksOf 9 rfl) rfl (by decide) ?_
    refine mw_iload (dT d7_risksOf 10 rfl) rfl ?_
    refine mw_iload_n (dT d7_risksOf 11 rfl) rfl ?_
    refine mw_iload_n (dT d7_risksOf 12 rfl) rfl ?_
    refine mw_callVI mv_7_isOf ml_X7_231 (by decide) (dT d7_risksOf 13 rfl) (as := [mI _, mI _, mI _]) rfl rfl T (fun v2 h2 T => ?_)
    obtain ⟨z, T1, T2⟩ := T
    refine mw_if_eq 30 (dT d7_risksOf 14 rfl) (by decide) z (fun z => ?_) (fun z => ?_)
    · have T := T1 z
      refine mw_iconst (dT d7_risksOf 17 rfl) ?_
      refine mw_iadd (dT d7_risksOf 18 rfl) ?_
      refine mw_istore_n (dT d7_risksOf 19 rfl) (by decide) ?_
      refine mw_iinc (dT d7_risksOf 20 rfl) rfl (by decide) ?_
      refine mw_goto 5 (dT d7_risksOf 21 rfl) (by decide) ?_
      exact T
    · have T := T2 z
      refine mw_iconst (dT d7_risksOf 15 rfl) ?_
      refine mw_goto 31 (dT d7_risksOf 16 rfl) (by decide) ?_
      refine mw_iadd (dT d7_risksOf 18 rfl) ?_
      refine mw_istore_n (dT d7_risksOf 19 rfl) (by decide) ?_
      refine mw_iinc (dT d7_risksOf 20 rfl) rfl (by decide) ?_
      refine mw_goto 5 (dT d7_risksOf 21 rfl) (by decide) ?_
      exact T
theorem s7_risksOf {K : Int → mH → Prop} {x1 : Int} {x2 : Int} {h : mH} (T : A7_risksOf_5 K x1 x2 0 0 h) : OkI M7_risksOf [mR 30 0, mI x1, mI x2] h K := by
  refine Ok.of rfl (n := 2) rfl ?_
  show At (mPI K) M7_risksOf 0 [mR 30 0, mI x1, mI x2, mU, mU] [] h
  refine mw_iconst (dT d7_risksOf 0 rfl) ?_
  refine mw_istore_n (dT d7_risksOf 1 rfl) (by decide) ?_
  refine mw_iconst (dT d7_risksOf 2 rfl) ?_
  refine mw_istore (dT d7_risksOf 3 rfl) (by decide) ?_
  exact T
abbrev A7_sumOf_6 (K : Int → mH → Prop) (x1 x2 x3 x4 x6 : Int) (h : mH) : Prop := At (mPJ K) M7_sumOf 6 [mR 30 0, mI x1, mI x2, mI x3, mJ x4, mU, mI x6] [] h
theorem s7_sumOf_6 {K : Int → mH → Prop} {x1 x2 x3 x4 x6 : Int} {h : mH} (T : OkI M7_many [mR 30 0] h (fun v1 h1 => (mInR x6 ∧ mInR v1) ∧ (v1 ≤ x6 → (K x4 h1)) ∧ (¬ v1 ≤ x6 → (OkI M7_isOf [mR 30 0, mI x6, mI x1, mI x2] h1 (fun v2 h2 => (mInR v2) ∧ (v2 = 0 → (A7_sumOf_6 K x1 x2 x3 x4 (x6 + 1) h2)) ∧ (¬ v2 = 0 → ((0 ≤ ((7 * x6) + x3) ∧ ((7 * x6) + x3) < 314) ∧ ((mInR (h2 41 0 ((7 * x6) + x3))) ∧ (A7_sumOf_6 K x1 x2 x3 (x4 + (h2 41 0 ((7 * x6) + x3))) (x6 + 1) h2))))))))) : A7_sumOf_6 K x1 x2 x3 x4 x6 h := by
  refine mw_iload (dT d7_sumOf 4 rfl) rfl ?_
  refine mw_aload_n (dT d7_sumOf 5 rfl) rfl (by decide) ?_
  refine mw_callVI mv_7_many ml_X7_200 (by decide) (dT d7_sumOf 6 rfl) (as := []) rfl rfl T (fun v1 h1 T => ?_)
  obtain ⟨z, T1, T2⟩ := T
  refine mw_icmp_ge 50 (dT d7_sumOf 7 rfl) (by decide) z (fun z => ?_) (fun z => ?_)
  · have T := T1 z
    refine mw_lload (dT d7_sumOf 28 rfl) rfl ?_
    exact mw_lret rfl (dT d7_sumOf 29 rfl) ⟨_, rfl, T⟩
  · have T := T2 z
    refine mw_aload_n (dT d7_sumOf 8 rfl) rfl (by decide) ?_
    refine mw_iload (dT d7_sumOf 9 rfl) rfl ?_
    refine mw_iload_n (dT d7_sumOf 10 rfl) rfl ?_
    refine mw_iload_n (dT d7_sumOf 11 rfl) rfl ?_
    refine mw_callVI mv_7_isOf ml_X7_231 (by decide) (dT d7_sumOf 12 rfl) (as := [mI _, mI _, mI _]) rfl rfl T (fun v2 h2 T => ?_)
    obtain ⟨z, T1, T2⟩ := T
    refine mw_if_eq 44 (dT d7_sumOf 13 rfl) (by decide) z (fun z => ?_) (fun z => ?_)
    · have T := T1 z
      refine mw_iinc (dT d7_sumOf 26 rfl) rfl (by decide) ?_
      refine mw_goto 6 (dT d7_sumOf 27 rfl) (by decide) ?_
      exact T
    · have T := T2 z
      refine mw_lload (dT d7_sumOf 14 rfl) rfl ?_
      refine mw_aload_n (dT d7_sumOf 15 rfl) rfl (by decide) ?_
      refine mw_getR fl_X7_45 (dT d7_sumOf 16 rfl) ?_
      refine mw_bipush (by decide) (dT d7_sumOf 17 rfl) ?_
      refine mw_iload (dT d7_sumOf 18 rfl) rfl ?_
      refine mw_imul (dT d7_sumOf 19 rfl) ?_
      refine mw_iload_n (dT d7_sumOf 20 rfl) rfl ?_
      refine mw_iadd (dT d7_sumOf 21 rfl) ?_
      obtain ⟨z, T⟩ := T
      refine mw_iaload ro_41 (dT d7_sumOf 22 rfl) z ?_
      obtain ⟨z, T⟩ := T
      refine mw_i2l (dT d7_sumOf 23 rfl) z ?_
      refine mw_ladd (dT d7_sumOf 24 rfl) ?_
      refine mw_lstore (dT d7_sumOf 25 rfl) (by decide) ?_
      refine mw_iinc (dT d7_sumOf 26 rfl) rfl (by decide) ?_
      refine mw_goto 6 (dT d7_sumOf 27 rfl) (by decide) ?_
      exact T
theorem s7_sumOf {K : Int → mH → Prop} {x1 : Int} {x2 : Int} {x3 : Int} {h : mH} (T : A7_sumOf_6 K x1 x2 x3 0 0 h) : OkJ M7_sumOf [mR 30 0, mI x1, mI x2, mI x3] h K := by
  refine Ok.of rfl (n := 3) rfl ?_
  show At (mPJ K) M7_sumOf 0 [mR 30 0, mI x1, mI x2, mI x3, mU, mU, mU] [] h
  refine mw_lconst (dT d7_sumOf 0 rfl) ?_
  refine mw_lstore (dT d7_sumOf 1 rfl) (by decide) ?_
  refine mw_iconst (dT d7_sumOf 2 rfl) ?_
  refine mw_istore (dT d7_sumOf 3 rfl) (by decide) ?_
  exact T
abbrev A7_premiumsOf_5 (K : Int → mH → Prop) (x1 x2 x3 x5 : Int) (h : mH) : Prop := At (mPJ K) M7_premiumsOf 5 [mR 30 0, mI x1, mI x2, mJ x3, mU, mI x5] [] h
theorem s7_premiumsOf_5 {K : Int → mH → Prop} {x1 x2 x3 x5 : Int} {h : mH} (T : OkI M7_many [mR 30 0] h (fun v1 h1 => (mInR x5 ∧ mInR v1) ∧ (v1 ≤ x5 → (K x3 h1)) ∧ (¬ v1 ≤ x5 → (OkI M7_isOf [mR 30 0, mI x5, mI x1, mI x2] h1 (fun v2 h2 => (mInR v2) ∧ (v2 = 0 → (A7_premiumsOf_5 K x1 x2 x3 (x5 + 1) h2)) ∧ (¬ v2 = 0 → (OkJ M7_premiumOf [mR 30 0, mI x5] h2 (fun v3 h3 => A7_premiumsOf_5 K x1 x2 (x3 + v3) (x5 + 1) h3)))))))) : A7_premiumsOf_5 K x1 x2 x3 x5 h := by
  refine mw_iload (dT d7_premiumsOf 4 rfl) rfl ?_
  refine mw_aload_n (dT d7_premiumsOf 5 rfl) rfl (by decide) ?_
  refine mw_callVI mv_7_many ml_X7_200 (by decide) (dT d7_premiumsOf 6 rfl) (as := []) rfl rfl T (fun v1 h1 T => ?_)
  obtain ⟨z, T1, T2⟩ := T
  refine mw_icmp_ge 40 (dT d7_premiumsOf 7 rfl) (by decide) z (fun z => ?_) (fun z => ?_)
  · have T := T1 z
    refine mw_lload_n (dT d7_premiumsOf 22 rfl) rfl ?_
    exact mw_lret rfl (dT d7_premiumsOf 23 rfl) ⟨_, rfl, T⟩
  · have T := T2 z
    refine mw_aload_n (dT d7_premiumsOf 8 rfl) rfl (by decide) ?_
    refine mw_iload (dT d7_premiumsOf 9 rfl) rfl ?_
    refine mw_iload_n (dT d7_premiumsOf 10 rfl) rfl ?_
    refine mw_iload_n (dT d7_premiumsOf 11 rfl) rfl ?_
    refine mw_callVI mv_7_isOf ml_X7_231 (by decide) (dT d7_premiumsOf 12 rfl) (as := [mI _, mI _, mI _]) rfl rfl T (fun v2 h2 T => ?_)
    obtain ⟨z, T1, T2⟩ := T
    refine mw_if_eq 34 (dT d7_premiumsOf 13 rfl) (by decide) z (fun z => ?_) (fun z => ?_)
    · have T := T1 z
      refine mw_iinc (dT d7_premiumsOf 20 rfl) rfl (by decide) ?_
      refine mw_goto 5 (dT d7_premiumsOf 21 rfl) (by decide) ?_
      exact T
    · have T := T2 z
      refine mw_lload_n (dT d7_premiumsOf 14 rfl) rfl ?_
      refine mw_aload_n (dT d7_premiumsOf 15 rfl) rfl (by decide) ?_
      refine mw_iload (dT d7_premiumsOf 16 rfl) rfl ?_
      refine mw_callVJ mv_7_premiumOf ml_X7_235 (by decide) (dT d7_premiumsOf 17 rfl) (as := [mI _]) rfl rfl T (fun v3 h3 T => ?_)
      refine mw_ladd (dT d7_premiumsOf 18 rfl) ?_
      refine mw_lstore_n (dT d7_premiumsOf 19 rfl) (by decide) ?_
      refine mw_iinc (dT d7_premiumsOf 20 rfl) rfl (by decide) ?_
      refine mw_goto 5 (dT d7_premiumsOf 21 rfl) (by decide) ?_
      exact T
theorem s7_premiumsOf {K : Int → mH → Prop} {x1 : Int} {x2 : Int} {h : mH} (T : A7_premiumsOf_5 K x1 x2 0 0 h) : OkJ M7_premiumsOf [mR 30 0, mI x1, mI x2] h K := by
  refine Ok.of rfl (n := 3) rfl ?_
  show At (mPJ K) M7_premiumsOf 0 [mR 30 0, mI x1, mI x2, mU, mU, mU] [] h
  refine mw_lconst (dT d7_premiumsOf 0 rfl) ?_
  refine mw_lstore_n (dT d7_premiumsOf 1 rfl) (by decide) ?_
  refine mw_iconst (dT d7_premiumsOf 2 rfl) ?_
  refine mw_istore (dT d7_premiumsOf 3 rfl) (by decide) ?_
  exact T
theorem s7_without {K : Int → mH → Prop} {x0 : Int} {h : mH} (T : (mInL x0) ∧ (0 ≤ x0 → (K x0 h)) ∧ (¬ 0 ≤ x0 → (K (-x0) h))) : OkJ M7_without [mJ x0] h K := by
  refine Ok.of rfl (n := 0) rfl ?_
  show At (mPJ K) M7_without 0 [mJ x0, mU] [] h
  refine mw_lload_n (dT d7_without 0 rfl) rfl ?_
  refine mw_lconst (dT d7_without 1 rfl) ?_
  obtain ⟨z, T1, T2⟩ := T
  refine mw_lif_ge 11 (dT d7_without 2 rfl) (dT d7_without 3 rfl) (by decide) ⟨z, by decide⟩ (fun z => ?_) (fun z => ?_)
  · have T := T1 z
    refine mw_lload_n (dT d7_without 7 rfl) rfl ?_
    exact mw_lret rfl (dT d7_without 8 rfl) ⟨_, rfl, T⟩
  · have T := T2 z
    refine mw_lload_n (dT d7_without 4 rfl) rfl ?_
    refine mw_lneg (dT d7_without 5 rfl) ?_
    refine mw_goto 12 (dT d7_without 6 rfl) (by decide) ?_
    exact mw_lret rfl (dT d7_without 8 rfl) ⟨_, rfl, T⟩
abbrev A7_balances_79 (K : Int → mH → Prop) (x1 x2 x3 x5 x7 : Int) (h : mH) : Prop := At (mPI K) M7_balances 79 [mR 30 0, mI x1, mI x2, mJ x3, mU, mJ x5, mU, mI x7] [] h
theorem s7_balances_79 {K : Int → mH → Prop} {x1 x2 x3 x5 x7 : Int} {h : mH} (T : (0 ≤ x1 ∧ x1 < 8) ∧ ((mInR x7 ∧ mInR (h 37 0 x1)) ∧ (¬ x7 = (h 37 0 x1) → (K 0 h)) ∧ (x7 = (h 37 0 x1) → ((mInL x5 ∧ mInL x3) ∧ (x3 ≤ x5 → (K 0 h)) ∧ (¬ x3 ≤ x5 → (K 1 h)))))) : A7_balances_79 K x1 x2 x3 x5 x7 h := by
  refine mw_iload (dT d7_balances 50 rfl) rfl ?_
  refine mw_aload_n (dT d7_balances 51 rfl) rfl (by decide) ?_
  refine mw_getR fl_X7_29 (dT d7_balances 52 rfl) ?_
  refine mw_iload_n (dT d7_balances 53 rfl) rfl ?_
  obtain ⟨z, T⟩ := T
  refine mw_iaload ro_37 (dT d7_balances 54 rfl) z ?_
  obtain ⟨z, T1, T2⟩ := T
  refine mw_icmp_ne 101 (dT d7_balances 55 rfl) (by decide) z (fun z => ?_) (fun z => ?_)
  · have T := T1 z
    refine mw_iconst (dT d7_balances 62 rfl) ?_
    exact mw_zret rfl (dT d7_balances 63 rfl) (Or.inl rfl) ⟨_, rfl, T⟩
  · have T := T2 z
    refine mw_lload (dT d7_balances 56 rfl) rfl ?_
    refine mw_lload_n (dT d7_balances 57 rfl) rfl ?_
    obtain ⟨z, T1, T2⟩ := T
    refine mw_lif_ge 101 (dT d7_balances 58 rfl) (dT d7_balances 59 rfl) (by decide) z (fun z => ?_) (fun z => ?_)
    · have T := T1 z
      refine mw_iconst (dT d7_balances 62 rfl) ?_
      exact mw_zret rfl (dT d7_balances 63 rfl) (Or.inl rfl) ⟨_, rfl, T⟩
    · have T := T2 z
      refine mw_iconst (dT d7_balances 60 rfl) ?_
      refine mw_goto 102 (dT d7_balances 61 rfl) (by decide) ?_
      exact mw_zret rfl (dT d7_balances 63 rfl) (Or.inr rfl) ⟨_, rfl, T⟩
theorem s7_balances {K : Int → mH → Prop} {x1 : Int} {x2 : Int} {h : mH} (T : OkI M7_risksOf [mR 30 0, mI x1, mI x2] h (fun v1 h1 => (mInR v1) ∧ (¬ v1 = 0 → (OkJ M7_sumOf [mR 30 0, mI x1, mI x2, mI 1] h1 (fun v2 h2 => OkJ M7_premiumsOf [mR 30 0, mI x1, mI x2] h2 (fun v3 h3 => OkJ M7_without [mJ (v2 - v3)] h3 (fun v4 h4 => (mInR (h4 32 0 1)) ∧ ((mInL (v4 * 1000) ∧ mInL ((h4 32 0 1) * v2)) ∧ (((h4 32 0 1) * v2) < (v4 * 1000) → (OkI M7_relativityOf [mR 30 0, mI x1, mI x2] h4 (fun v5 h5 => (0 ≤ x1 ∧ x1 < 8) ∧ ((mInR v5 ∧ mInR (h5 36 0 x1)) ∧ (¬ v5 = (h5 36 0 x1) → (A7_balances_79 K x1 x2 v2 v3 v5 h5)) ∧ (v5 = (h5 36 0 x1) → ((mInL v3 ∧ mInL v2) ∧ (v2 < v3 → (K 1 h5)) ∧ (¬ v2 < v3 → (A7_balances_79 K x1 x2 v2 v3 v5 h5)))))))) ∧ (¬ ((h4 32 0 1) * v2) < (v4 * 1000) → (K 1 h4)))))))) ∧ (v1 = 0 → (K 1 h1)))) : OkI M7_balances [mR 30 0, mI x1, mI x2] h K := by
  refine Ok.of rfl (n := 5) rfl ?_
  show At (mPI K) M7_balances 0 [mR 30 0, mI x1, mI x2, mU, mU, mU, mU, mU] [] h
  refine mw_aload_n (dT d7_balances 0 rfl) rfl (by decide) ?_
  refine mw_iload_n (dT d7_balances 1 rfl) rfl ?_
  refine mw_iload_n (dT d7_balances 2 rfl) rfl ?_
  refine mw_callVI mv_7_risksOf ml_X7_239 (by decide) (dT d7_balances 3 rfl) (as := [mI _, mI _]) rfl rfl T (fun v1 h1 T => ?_)
  obtain ⟨z, T1, T2⟩ := T
  refine mw_if_ne 11 (dT d7_balances 4 rfl) (by decide) z (fun z => ?_) (fun z => ?_)
  · have T := T1 z
    refine mw_aload_n (dT d7_balances 7 rfl) rfl (by decide) ?_
    refine mw_iload_n (dT d7_balances 8 rfl) rfl ?_
    refine mw_iload_n (dT d7_balances 9 rfl) rfl ?_
    refine mw_iconst (dT d7_balances 10 rfl) ?_
    refine mw_callVJ mv_7_sumOf ml_X7_242 (by decide) (dT d7_balances 11 rfl) (as := [mI _, mI _, mI _]) rfl rfl T (fun v2 h2 T => ?_)
    refine mw_lstore_n (dT d7_balances 12 rfl) (by decide) ?_
    refine mw_aload_n (dT d7_balances 13 rfl) rfl (by decide) ?_
    refine mw_iload_n (dT d7_balances 14 rfl) rfl ?_
    refine mw_iload_n (dT d7_balances 15 rfl) rfl ?_
    refine mw_callVJ mv_7_premiumsOf ml_X7_245 (by decide) (dT d7_balances 16 rfl) (as := [mI _, mI _]) rfl rfl T (fun v3 h3 T => ?_)
    refine mw_lstore (dT d7_balances 17 rfl) (by decide) ?_
    refine mw_lload_n (dT d7_balances 18 rfl) rfl ?_
    refine mw_lload (dT d7_balances 19 rfl) rfl ?_
    refine mw_lsub (dT d7_balances 20 rfl) ?_
    refine mw_callSJ mt_7_without ml_X7_248 (by decide) (dT d7_balances 21 rfl) (as := [mJ _]) rfl rfl T (fun v4 h4 T => ?_)
    refine mw_ldc2 kl_X7_220 (dT d7_balances 22 rfl) ?_
    refine mw_lmul (dT d7_balances 23 rfl) ?_
    refine mw_aload_n (dT d7_balances 24 rfl) rfl (by decide) ?_
    refine mw_getR fl_X7_13 (dT d7_balances 25 rfl) ?_
    refine mw_iconst (dT d7_balances 26 rfl) ?_
    refine mw_iaload ro_32 (dT d7_balances 27 rfl) (by decide) ?_
    obtain ⟨z, T⟩ := T
    refine mw_i2l (dT d7_balances 28 rfl) z ?_
    refine mw_lload_n (dT d7_balances 29 rfl) rfl ?_
    refine mw_lmul (dT d7_balances 30 rfl) ?_
    obtain ⟨z, T1, T2⟩ := T
    refine mw_lif_gt 53 (dT d7_balances 31 rfl) (dT d7_balances 32 rfl) (by decide) z (fun z => ?_) (fun z => ?_)
    · have T := T1 z
      refine mw_aload_n (dT d7_balances 35 rfl) rfl (by decide) ?_
      refine mw_iload_n (dT d7_balances 36 rfl) rfl ?_
      refine mw_iload_n (dT d7_balances 37 rfl) rfl ?_
      refine mw_callVI mv_7_relativityOf ml_X7_222 (by decide) (dT d7_balances 38 rfl) (as := [mI _, mI _]) rfl rfl T (fun v5 h5 T => ?_)
      refine mw_istore (dT d7_balances 39 rfl) (by decide) ?_
      refine mw_iload (dT d7_balances 40 rfl) rfl ?_
      refine mw_aload_n (dT d7_balances 41 rfl) rfl (by decide) ?_
      refine mw_getR fl_X7_26 (dT d7_balances 42 rfl) ?_
      refine mw_iload_n (dT d7_balances 43 rfl) rfl ?_
      obtain ⟨z, T⟩ := T
      refine mw_iaload ro_36 (dT d7_balances 44 rfl) z ?_
      obtain ⟨z, T1, T2⟩ := T
      refine mw_icmp_ne 79 (dT d7_balances 45 rfl) (by decide) z (fun z => ?_) (fun z => ?_)
      · have T := T1 z
        exact T
      · have T := T2 z
        refine mw_lload (dT d7_balances 46 rfl) rfl ?_
        refine mw_lload_n (dT d7_balances 47 rfl) rfl ?_
        obtain ⟨z, T1, T2⟩ := T
        refine mw_lif_gt 97 (dT d7_balances 48 rfl) (dT d7_balances 49 rfl) (by decide) z (fun z => ?_) (fun z => ?_)
        · have T := T1 z
          refine mw_iconst (dT d7_balances 60 rfl) ?_
          refine mw_goto 102 (dT d7_balances 61 rfl) (by decide) ?_
          exact mw_zret rfl (dT d7_balances 63 rfl) (Or.inr rfl) ⟨_, rfl, T⟩
        · have T := T2 z
          exact T
    · have T := T2 z
      refine mw_iconst (dT d7_balances 33 rfl) ?_
      exact mw_zret rfl (dT d7_balances 34 rfl) (Or.inr rfl) ⟨_, rfl, T⟩
  · have T := T2 z
    refine mw_iconst (dT d7_balances 5 rfl) ?_
    exact mw_zret rfl (dT d7_balances 6 rfl) (Or.inr rfl) ⟨_, rfl, T⟩
abbrev A7_unbalancedNow_4 (K : Int → mH → Prop) (x1 x2 : Int) (h : mH) : Prop := At (mPI K) M7_unbalancedNow 4 [mR 30 0, mI x1, mI x2, mU] [] h
abbrev A7_unbalancedNow_14 (K : Int → mH → Prop) (x1 x2 x3 : Int) (h : mH) : Prop := At (mPI K) M7_unbalancedNow 14 [mR 30 0, mI x1, mI x2, mI x3] [] h
theorem s7_unbalancedNow_4 {K : Int → mH → Prop} {x1 x2 : Int} {h : mH} (T : OkI M7_factors [mR 30 0] h (fun v1 h1 => (mInR x2 ∧ mInR v1) ∧ (v1 ≤ x2 → (K x1 h1)) ∧ (¬ v1 ≤ x2 → (A7_unbalancedNow_14 K x1 x2 0 h1)))) : A7_unbalancedNow_4 K x1 x2 h := by
  refine mw_iload_n (dT d7_unbalancedNow 4 rfl) rfl ?_
  refine mw_aload_n (dT d7_unbalancedNow 5 rfl) rfl (by decide) ?_
  refine mw_callVI mv_7_factors ml_X7_193 (by decide) (dT d7_unbalancedNow 6 rfl) (as := []) rfl rfl T (fun v1 h1 T => ?_)
  obtain ⟨z, T1, T2⟩ := T
  refine mw_icmp_ge 63 (dT d7_unbalancedNow 7 rfl) (by decide) z (fun z => ?_) (fun z => ?_)
  · have T := T1 z
    refine mw_iload_n (dT d7_unbalancedNow 37 rfl) rfl ?_
    exact mw_iret rfl (dT d7_unbalancedNow 38 rfl) ⟨_, rfl, T⟩
  · have T := T2 z
    refine mw_iconst (dT d7_unbalancedNow 8 rfl) ?_
    refine mw_istore_n (dT d7_unbalancedNow 9 rfl) (by decide) ?_
    exact T
theorem s7_unbalancedNow_14 {K : Int → mH → Prop} {x1 x2 x3 : Int} {h : mH} (T : (0 ≤ x2 ∧ x2 < 8) ∧ ((mInR x3 ∧ mInR (h 35 0 x2)) ∧ ((h 35 0 x2) ≤ x3 → (A7_unbalancedNow_4 K x1 (x2 + 1) h)) ∧ (¬ (h 35 0 x2) ≤ x3 → (OkI M7_firstOf [mR 30 0, mI x2, mI x3] h (fun v1 h1 => (mInR v1 ∧ mInR x3) ∧ (¬ v1 = x3 → (A7_unbalancedNow_14 K (x1 + 0) x2 (x3 + 1) h1)) ∧ (v1 = x3 → (OkI M7_balances [mR 30 0, mI x2, mI x3] h1 (fun v2 h2 => (mInR v2) ∧ (¬ v2 = 0 → (A7_unbalancedNow_14 K (x1 + 0) x2 (x3 + 1) h2)) ∧ (v2 = 0 → (A7_unbalancedNow_14 K (x1 + 1) x2 (x3 + 1) h2)))))))))) : A7_unbalancedNow_14 K x1 x2 x3 h := by
  refine mw_iload_n (dT d7_unbalancedNow 10 rfl) rfl ?_
  refine mw_aload_n (dT d7_unbalancedNow 11 rfl) rfl (by decide) ?_
  refine mw_getR fl_X7_23 (dT d7_unbalancedNow 12 rfl) ?_
  refine mw_iload_n (dT d7_unbalancedNow 13 rfl) rfl ?_
  obtain ⟨z, T⟩ := T
  refine mw_iaload ro_35 (dT d7_unbalancedNow 14 rfl) z ?_
  obtain ⟨z, T1, T2⟩ := T
  refine mw_icmp_ge 57 (dT d7_unbalancedNow 15 rfl) (by decide) z (fun z => ?_) (fun z => ?_)
  · have T := T1 z
    refine mw_iinc (dT d7_unbalancedNow 35 rfl) rfl (by decide) ?_
    refine mw_goto 4 (dT d7_unbalancedNow 36 rfl) (by decide) ?_
    exact At.forget [3] T
  · have T := T2 z
    refine mw_iload_n (dT d7_unbalancedNow 16 rfl) rfl ?_
    refine mw_aload_n (dT d7_unbalancedNow 17 rfl) rfl (by decide) ?_
    refine mw_iload_n (dT d7_unbalancedNow 18 rfl) rfl ?_
    refine mw_iload_n (dT d7_unbalancedNow 19 rfl) rfl ?_
    refine mw_callVI mv_7_firstOf ml_X7_210 (by decide) (dT d7_unbalancedNow 20 rfl) (as := [mI _, mI _]) rfl rfl T (fun v1 h1 T => ?_)
    refine mw_iload_n (dT d7_unbalancedNow 21 rfl) rfl ?_
    obtain ⟨z, T1, T2⟩ := T
    refine mw_icmp_ne 48 (dT d7_unbalancedNow 22 rfl) (by decide) z (fun z => ?_) (fun z => ?_)
    · have T := T1 z
      refine mw_iconst (dT d7_unbalancedNow 30 rfl) ?_
      refine mw_iadd (dT d7_unbalancedNow 31 rfl) ?_
      refine mw_istore_n (dT d7_unbalancedNow 32 rfl) (by decide) ?_
      refine mw_iinc (dT d7_unbalancedNow 33 rfl) rfl (by decide) ?_
      refine mw_goto 14 (dT d7_unbalancedNow 34 rfl) (by decide) ?_
      exact T
    · have T := T2 z
      refine mw_aload_n (dT d7_unbalancedNow 23 rfl) rfl (by decide) ?_
      refine mw_iload_n (dT d7_unbalancedNow 24 rfl) rfl ?_
      refine mw_iload_n (dT d7_unbalancedNow 25 rfl) rfl ?_
      refine mw_callVI mv_7_balances ml_X7_252 (by decide) (dT d7_unbalancedNow 26 rfl) (as := [mI _, mI _]) rfl rfl T (fun v2 h2 T => ?_)
      obtain ⟨z, T1, T2⟩ := T
      refine mw_if_ne 48 (dT d7_unbalancedNow 27 rfl) (by decide) z (fun z => ?_) (fun z => ?_)
      · have T := T1 z
        refine mw_iconst (dT d7_unbalancedNow 30 rfl) ?_
        refine mw_iadd (dT d7_unbalancedNow 31 rfl) ?_
        refine mw_istore_n (dT d7_unbalancedNow 32 rfl) (by decide) ?_
        refine mw_iinc (dT d7_unbalancedNow 33 rfl) rfl (by decide) ?_
        refine mw_goto 14 (dT d7_unbalancedNow 34 rfl) (by decide) ?_
        exact T
      · have T := T2 z
        refine mw_iconst (dT d7_unbalancedNow 28 rfl) ?_
        refine mw_goto 49 (dT d7_unbalancedNow 29 rfl) (by decide) ?_
        refine mw_iadd (dT d7_unbalancedNow 31 rfl) ?_
        refine mw_istore_n (dT d7_unbalancedNow 32 rfl) (by decide) ?_
        refine mw_iinc (dT d7_unbalancedNow 33 rfl) rfl (by decide) ?_
        refine mw_goto 14 (dT d7_unbalancedNow 34 rfl) (by decide) ?_
        exact T
theorem s7_unbalancedNow {K : Int → mH → Prop} {h : mH} (T : A7_unbalancedNow_4 K 0 0 h) : OkI M7_unbalancedNow [mR 30 0] h K := by
  refine Ok.of rfl (n := 3) rfl ?_
  show At (mPI K) M7_unbalancedNow 0 [mR 30 0, mU, mU, mU] [] h
  refine mw_iconst (dT d7_unbalancedNow 0 rfl) ?_
  refine mw_istore_n (dT d7_unbalancedNow 1 rfl) (by decide) ?_
  refine mw_iconst (dT d7_unbalancedNow 2 rfl) ?_
  refine mw_istore_n (dT d7_unbalancedNow 3 rfl) (by decide) ?_
  exact T
abbrev A7_misfit_4 (K : Int → mH → Prop) (x1 x3 : Int) (h : mH) : Prop := At (mPJ K) M7_misfit 4 [mR 30 0, mJ x1, mU, mI x3, mU] [] h
abbrev A7_misfit_15 (K : Int → mH → Prop) (x1 x3 x4 : Int) (h : mH) : Prop := At (mPJ K) M7_misfit 15 [mR 30 0, mJ x1, mU, mI x3, mI x4] [] h
theorem s7_misfit_4 {K : Int → mH → Prop} {x1 x3 : Int} {h : mH} (T : OkI M7_factors [mR 30 0] h (fun v1 h1 => (mInR x3 ∧ mInR v1) ∧ (v1 ≤ x3 → (K x1 h1)) ∧ (¬ v1 ≤ x3 → (A7_misfit_15 K x1 x3 0 h1)))) : A7_misfit_4 K x1 x3 h := by
  refine mw_iload_n (dT d7_misfit 4 rfl) rfl ?_
  refine mw_aload_n (dT d7_misfit 5 rfl) rfl (by decide) ?_
  refine mw_callVI mv_7_factors ml_X7_193 (by decide) (dT d7_misfit 6 rfl) (as := []) rfl rfl T (fun v1 h1 T => ?_)
  obtain ⟨z, T1, T2⟩ := T
  refine mw_icmp_ge 72 (dT d7_misfit 7 rfl) (by decide) z (fun z => ?_) (fun z => ?_)
  · have T := T1 z
    refine mw_lload_n (dT d7_misfit 40 rfl) rfl ?_
    exact mw_lret rfl (dT d7_misfit 41 rfl) ⟨_, rfl, T⟩
  · have T := T2 z
    refine mw_iconst (dT d7_misfit 8 rfl) ?_
    refine mw_istore (dT d7_misfit 9 rfl) (by decide) ?_
    exact T
theorem s7_misfit_15 {K : Int → mH → Prop} {x1 x3 x4 : Int} {h : mH} (T : (0 ≤ x3 ∧ x3 < 8) ∧ ((mInR x4 ∧ mInR (h 35 0 x3)) ∧ ((h 35 0 x3) ≤ x4 → (A7_misfit_4 K x1 (x3 + 1) h)) ∧ (¬ (h 35 0 x3) ≤ x4 → (OkI M7_firstOf [mR 30 0, mI x3, mI x4] h (fun v1 h1 => (mInR v1 ∧ mInR x4) ∧ (¬ v1 = x4 → (A7_misfit_15 K x1 x3 (x4 + 1) h1)) ∧ (v1 = x4 → (OkJ M7_sumOf [mR 30 0, mI x3, mI x4, mI 1] h1 (fun v2 h2 => OkJ M7_premiumsOf [mR 30 0, mI x3, mI x4] h2 (fun v3 h3 => OkJ M7_without [mJ (v2 - v3)] h3 (fun v4 h4 => A7_misfit_15 K (x1 + v4) x3 (x4 + 1) h4)))))))))) : A7_misfit_15 K x1 x3 x4 h := by
  refine mw_iload (dT d7_misfit 10 rfl) rfl ?_
  refine mw_aload_n (dT d7_misfit 11 rfl) rfl (by decide) ?_
  refine mw_getR fl_X7_23 (dT d7_misfit 12 rfl) ?_
  refine mw_iload_n (dT d7_misfit 13 rfl) rfl ?_
  obtain ⟨z, T⟩ := T
  refine mw_iaload ro_35 (dT d7_misfit 14 rfl) z ?_
  obtain ⟨z, T1, T2⟩ := T
  refine mw_icmp_ge 66 (dT d7_misfit 15 rfl) (by decide) z (fun z => ?_) (fun z => ?_)
  · have T := T1 z
    refine mw_iinc (dT d7_misfit 38 rfl) rfl (by decide) ?_
    refine mw_goto 4 (dT d7_misfit 39 rfl) (by decide) ?_
    exact At.forget [4] T
  · have T := T2 z
    refine mw_aload_n (dT d7_misfit 16 rfl) rfl (by decide) ?_
    refine mw_iload_n (dT d7_misfit 17 rfl) rfl ?_
    refine mw_iload (dT d7_misfit 18 rfl) rfl ?_
    refine mw_callVI mv_7_firstOf ml_X7_210 (by decide) (dT d7_misfit 19 rfl) (as := [mI _, mI _]) rfl rfl T (fun v1 h1 T => ?_)
    refine mw_iload (dT d7_misfit 20 rfl) rfl ?_
    obtain ⟨z, T1, T2⟩ := T
    refine mw_icmp_ne 60 (dT d7_misfit 21 rfl) (by decide) z (fun z => ?_) (fun z => ?_)
    · have T := T1 z
      refine mw_iinc (dT d7_misfit 36 rfl) rfl (by decide) ?_
      refine mw_goto 15 (dT d7_misfit 37 rfl) (by decide) ?_
      exact T
    · have T := T2 z
      refine mw_lload_n (dT d7_misfit 22 rfl) rfl ?_
      refine mw_aload_n (dT d7_misfit 23 rfl) rfl (by decide) ?_
      refine mw_iload_n (dT d7_misfit 24 rfl) rfl ?_
      refine mw_iload (dT d7_misfit 25 rfl) rfl ?_
      refine mw_iconst (dT d7_misfit 26 rfl) ?_
      refine mw_callVJ mv_7_sumOf ml_X7_242 (by decide) (dT d7_misfit 27 rfl) (as := [mI _, mI _, mI _]) rfl rfl T (fun v2 h2 T => ?_)
      refine mw_aload_n (dT d7_misfit 28 rfl) rfl (by decide) ?_
      refine mw_iload_n (dT d7_misfit 29 rfl) rfl ?_
      refine mw_iload (dT d7_misfit 30 rfl) rfl ?_
      refine mw_callVJ mv_7_premiumsOf ml_X7_245 (by decide) (dT d7_misfit 31 rfl) (as := [mI _, mI _]) rfl rfl T (fun v3 h3 T => ?_)
      refine mw_lsub (dT d7_misfit 32 rfl) ?_
      refine mw_callSJ mt_7_without ml_X7_248 (by decide) (dT d7_misfit 33 rfl) (as := [mJ _]) rfl rfl T (fun v4 h4 T => ?_)
      refine mw_ladd (dT d7_misfit 34 rfl) ?_
      refine mw_lstore_n (dT d7_misfit 35 rfl) (by decide) ?_
      refine mw_iinc (dT d7_misfit 36 rfl) rfl (by decide) ?_
      refine mw_goto 15 (dT d7_misfit 37 rfl) (by decide) ?_
      exact T
theorem s7_misfit {K : Int → mH → Prop} {h : mH} (T : A7_misfit_4 K 0 0 h) : OkJ M7_misfit [mR 30 0] h K := by
  refine Ok.of rfl (n := 4) rfl ?_
  show At (mPJ K) M7_misfit 0 [mR 30 0, mU, mU, mU, mU] [] h
  refine mw_lconst (dT d7_misfit 0 rfl) ?_
  refine mw_lstore_n (dT d7_misfit 1 rfl) (by decide) ?_
  refine mw_iconst (dT d7_misfit 2 rfl) ?_
  refine mw_istore_n (dT d7_misfit 3 rfl) (by decide) ?_
  exact T
theorem s7_trusted {K : Int → mH → Prop} {x1 : Int} {x2 : Int} {x3 : Int} {x4 : Int} {h : mH} (T : (mInR (h 41 0 311)) ∧ (¬ (h 41 0 311) = 0 → (OkJ M7_sumOf [mR 30 0, mI x1, mI x2, mI 0] h (fun v1 h1 => (mInR (x4 - x3)) ∧ ((mInR (h1 41 0 311)) ∧ ((mInL ((x4 - x3) * v1) ∧ mInL (v1 + (h1 41 0 311)) ∧ (v1 + (h1 41 0 311)) ≠ 0) ∧ ((mInR x3) ∧ ((mInL ((Int.tdiv ((x4 - x3) * v1) (v1 + (h1 41 0 311))) * (v1 + (h1 41 0 311))) ∧ mInL ((x4 - x3) * v1)) ∧ (((Int.tdiv ((x4 - x3) * v1) (v1 + (h1 41 0 311))) * (v1 + (h1 41 0 311))) ≤ ((x4 - x3) * v1) → (K (x3 + (Int.tdiv ((x4 - x3) * v1) (v1 + (h1 41 0 311)))) h1)) ∧ (¬ ((Int.tdiv ((x4 - x3) * v1) (v1 + (h1 41 0 311))) * (v1 + (h1 41 0 311))) ≤ ((x4 - x3) * v1) → (K (x3 + ((Int.tdiv ((x4 - x3) * v1) (v1 + (h1 41 0 311))) - 1)) h1))))))))) ∧ ((h 41 0 311) = 0 → (K x4 h))) : OkI M7_trusted [mR 30 0, mI x1, mI x2, mI x3, mI x4] h K := by
  refine Ok.of rfl (n := 8) rfl ?_
  show At (mPI K) M7_trusted 0 [mR 30 0, mI x1, mI x2, mI x3, mI x4, mU, mU, mU, mU, mU, mU, mU, mU] [] h
  refine mw_aload_n (dT d7_trusted 0 rfl) rfl (by decide) ?_
  refine mw_getR fl_X7_45 (dT d7_trusted 1 rfl) ?_
  refine mw_sipush (by decide) (dT d7_trusted 2 rfl) ?_
  refine mw_iaload ro_41 (dT d7_trusted 3 rfl) (by decide) ?_
  obtain ⟨z, T1, T2⟩ := T
  refine mw_if_ne 14 (dT d7_trusted 4 rfl) (by decide) z (fun z => ?_) (fun z => ?_)
  · have T := T1 z
    refine mw_aload_n (dT d7_trusted 7 rfl) rfl (by decide) ?_
    refine mw_iload_n (dT d7_trusted 8 rfl) rfl ?_
    refine mw_iload_n (dT d7_trusted 9 rfl) rfl ?_
    refine mw_iconst (dT d7_trusted 10 rfl) ?_
    refine mw_callVJ mv_7_sumOf ml_X7_242 (by decide) (dT d7_trusted 11 rfl) (as := [mI _, mI _, mI _]) rfl rfl T (fun v1 h1 T => ?_)
    refine mw_lstore (dT d7_trusted 12 rfl) (by decide) ?_
    refine mw_iload (dT d7_trusted 13 rfl) rfl ?_
    refine mw_iload_n (dT d7_trusted 14 rfl) rfl ?_
    refine mw_isub (dT d7_trusted 15 rfl) ?_
    obtain ⟨z, T⟩ := T
    refine mw_i2l (dT d7_trusted 16 rfl) z ?_
    refine mw_lload (dT d7_trusted 17 rfl) rfl ?_
    refine mw_lmul (dT d7_trusted 18 rfl) ?_
    refine mw_lstore (dT d7_trusted 19 rfl) (by decide) ?_
    refine mw_lload (dT d7_trusted 20 rfl) rfl ?_
    refine mw_aload_n (dT d7_trusted 21 rfl) rfl (by decide) ?_
    refine mw_getR fl_X7_45 (dT d7_trusted 22 rfl) ?_
    refine mw_sipush (by decide) (dT d7_trusted 23 rfl) ?_
    refine mw_iaload ro_41 (dT d7_trusted 24 rfl) (by decide) ?_
    obtain ⟨z, T⟩ := T
    refine mw_i2l (dT d7_trusted 25 rfl) z ?_
    refine mw_ladd (dT d7_trusted 26 rfl) ?_
    refine mw_lstore (dT d7_trusted 27 rfl) (by decide) ?_
    refine mw_lload (dT d7_trusted 28 rfl) rfl ?_
    refine mw_lload (dT d7_trusted 29 rfl) rfl ?_
    obtain ⟨z, T⟩ := T
    refine mw_ldiv (dT d7_trusted 30 rfl) z ?_
    refine mw_lstore (dT d7_trusted 31 rfl) (by decide) ?_
    refine mw_iload_n (dT d7_trusted 32 rfl) rfl ?_
    obtain ⟨z, T⟩ := T
    refine mw_i2l (dT d7_trusted 33 rfl) z ?_
    refine mw_lload (dT d7_trusted 34 rfl) rfl ?_
    refine mw_lload (dT d7_trusted 35 rfl) rfl ?_
    refine mw_lmul (dT d7_trusted 36 rfl) ?_
    refine mw_lload (dT d7_trusted 37 rfl) rfl ?_
    obtain ⟨z, T1, T2⟩ := T
    refine mw_lif_le 74 (dT d7_trusted 38 rfl) (dT d7_trusted 39 rfl) (by decide) z (fun z => ?_) (fun z => ?_)
    · have T := T1 z
      refine mw_lload (dT d7_trusted 44 rfl) rfl ?_
      refine mw_ladd (dT d7_trusted 45 rfl) ?_
      refine mw_l2i (dT d7_trusted 46 rfl) ?_
      exact mw_iret rfl (dT d7_trusted 47 rfl) ⟨_, rfl, T⟩
    · have T := T2 z
      refine mw_lload (dT d7_trusted 40 rfl) rfl ?_
      refine mw_lconst (dT d7_trusted 41 rfl) ?_
      refine mw_lsub (dT d7_trusted 42 rfl) ?_
      refine mw_goto 76 (dT d7_trusted 43 rfl) (by decide) ?_
      refine mw_ladd (dT d7_trusted 45 rfl) ?_
      refine mw_l2i (dT d7_trusted 46 rfl) ?_
      exact mw_iret rfl (dT d7_trusted 47 rfl) ⟨_, rfl, T⟩
  · have T := T2 z
    refine mw_iload (dT d7_trusted 5 rfl) rfl ?_
    exact mw_iret rfl (dT d7_trusted 6 rfl) ⟨_, rfl, T⟩
abbrev A7_turns_4 (K : Int → mH → Prop) (x1 x2 x3 : Int) (h : mH) : Prop := At (mPI K) M7_turns 4 [mR 30 0, mI x1, mI x2, mI x3, mU, mU, mU, mU] [] h
theorem s7_turns_4 {K : Int → mH → Prop} {x1 x2 x3 : Int} {h : mH} (T : (0 ≤ x1 ∧ x1 < 8) ∧ ((mInR x3 ∧ mInR (h 35 0 x1)) ∧ ((h 35 0 x1) ≤ x3 → (K x2 h)) ∧ (¬ (h 35 0 x1) ≤ x3 → (OkI M7_firstOf [mR 30 0, mI x1, mI x3] h (fun v1 h1 => (mInR v1 ∧ mInR x3) ∧ (¬ v1 = x3 → (A7_turns_4 K x1 x2 (x3 + 1) h1)) ∧ (v1 = x3 → (OkI M7_risksOf [mR 30 0, mI x1, mI x3] h1 (fun v2 h2 => (mInR v2) ∧ (¬ v2 = 0 → (OkJ M7_premiumsOf [mR 30 0, mI x1, mI x3] h2 (fun v3 h3 => (mInL v3) ∧ (¬ v3 = 0 → (OkI M7_relativityOf [mR 30 0, mI x1, mI x3] h3 (fun v4 h4 => (mInR v4) ∧ (OkJ M7_sumOf [mR 30 0, mI x1, mI x3, mI 1] h4 (fun v5 h5 => (mInL (v4 * v5) ∧ mInL v3 ∧ v3 ≠ 0) ∧ ((0 ≤ x1 ∧ x1 < 8) ∧ ((mInR (h5 36 0 x1)) ∧ ((0 ≤ x1 ∧ x1 < 8) ∧ ((mInR (h5 37 0 x1)) ∧ (OkJ M7_within [mJ (Int.tdiv (v4 * v5) v3), mJ (h5 36 0 x1), mJ (h5 37 0 x1)] h5 (fun v6 h6 => OkI M7_trusted [mR 30 0, mI x1, mI x3, mI v4, mI v6] h6 (fun v7 h7 => OkV M7_relates [mR 30 0, mI x1, mI x3, mI v7] h7 (fun h8 => (mInR v7 ∧ mInR v4) ∧ (¬ v7 = v4 → (A7_turns_4 K x1 (x2 + 1) (x3 + 1) h8)) ∧ (v7 = v4 → (A7_turns_4 K x1 (x2 + 0) (x3 + 1) h8))))))))))))))) ∧ (v3 = 0 → (A7_turns_4 K x1 x2 (x3 + 1) h3))))) ∧ (v2 = 0 → (A7_turns_4 K x1 x2 (x3 + 1) h2)))))))))) : A7_turns_4 K x1 x2 x3 h := by
  refine mw_iload_n (dT d7_turns 4 rfl) rfl ?_
  refine mw_aload_n (dT d7_turns 5 rfl) rfl (by decide) ?_
  refine mw_getR fl_X7_23 (dT d7_turns 6 rfl) ?_
  refine mw_iload_n (dT d7_turns 7 rfl) rfl ?_
  obtain ⟨z, T⟩ := T
  refine mw_iaload ro_35 (dT d7_turns 8 rfl) z ?_
  obtain ⟨z, T1, T2⟩ := T
  refine mw_icmp_ge 133 (dT d7_turns 9 rfl) (by decide) z (fun z => ?_) (fun z => ?_)
  · have T := T1 z
    refine mw_iload_n (dT d7_turns 81 rfl) rfl ?_
    exact mw_iret rfl (dT d7_turns 82 rfl) ⟨_, rfl, T⟩
  · have T := T2 z
    refine mw_aload_n (dT d7_turns 10 rfl) rfl (by decide) ?_
    refine mw_iload_n (dT d7_turns 11 rfl) rfl ?_
    refine mw_iload_n (dT d7_turns 12 rfl) rfl ?_
    refine mw_callVI mv_7_firstOf ml_X7_210 (by decide) (dT d7_turns 13 rfl) (as := [mI _, mI _]) rfl rfl T (fun v1 h1 T => ?_)
    refine mw_iload_n (dT d7_turns 14 rfl) rfl ?_
    obtain ⟨z, T1, T2⟩ := T
    refine mw_icmp_ne 127 (dT d7_turns 15 rfl) (by decide) z (fun z => ?_) (fun z => ?_)
    · have T := T1 z
      refine mw_iinc (dT d7_turns 79 rfl) rfl (by decide) ?_
      refine mw_goto 4 (dT d7_turns 80 rfl) (by decide) ?_
      exact T
    · have T := T2 z
      refine mw_aload_n (dT d7_turns 16 rfl) rfl (by decide) ?_
      refine mw_iload_n (dT d7_turns 17 rfl) rfl ?_
      refine mw_iload_n (dT d7_turns 18 rfl) rfl ?_
      refine mw_callVI mv_7_risksOf ml_X7_239 (by decide) (dT d7_turns 19 rfl) (as := [mI _, mI _]) rfl rfl T (fun v2 h2 T => ?_)
      obtain ⟨z, T1, T2⟩ := T
      refine mw_if_ne 36 (dT d7_turns 20 rfl) (by decide) z (fun z => ?_) (fun z => ?_)
      · have T := T1 z
        refine mw_aload_n (dT d7_turns 22 rfl) rfl (by decide) ?_
        refine mw_iload_n (dT d7_turns 23 rfl) rfl ?_
        refine mw_iload_n (dT d7_turns 24 rfl) rfl ?_
        refine mw_callVJ mv_7_premiumsOf ml_X7_245 (by decide) (dT d7_turns 25 rfl) (as := [mI _, mI _]) rfl rfl T (fun v3 h3 T => ?_)
        refine mw_lstore (dT d7_turns 26 rfl) (by decide) ?_
        refine mw_lload (dT d7_turns 27 rfl) rfl ?_
        refine mw_lconst (dT d7_turns 28 rfl) ?_
        obtain ⟨z, T1, T2⟩ := T
        refine mw_lif_ne 54 (dT d7_turns 29 rfl) (dT d7_turns 30 rfl) (by decide) ⟨z, by decide⟩ (fun z => ?_) (fun z => ?_)
        · have T := T1 z
          refine mw_aload_n (dT d7_turns 32 rfl) rfl (by decide) ?_
          refine mw_iload_n (dT d7_turns 33 rfl) rfl ?_
          refine mw_iload_n (dT d7_turns 34 rfl) rfl ?_
          refine mw_callVI mv_7_relativityOf ml_X7_222 (by decide) (dT d7_turns 35 rfl) (as := [mI _, mI _]) rfl rfl T (fun v4 h4 T => ?_)
          refine mw_istore (dT d7_turns 36 rfl) (by decide) ?_
          refine mw_aload_n (dT d7_turns 37 rfl) rfl (by decide) ?_
          refine mw_iload_n (dT d7_turns 38 rfl) rfl ?_
          refine mw_iload_n (dT d7_turns 39 rfl) rfl ?_
          refine mw_iload (dT d7_turns 40 rfl) rfl ?_
          refine mw_iload (dT d7_turns 41 rfl) rfl ?_
          obtain ⟨z, T⟩ := T
          refine mw_i2l (dT d7_turns 42 rfl) z ?_
          refine mw_aload_n (dT d7_turns 43 rfl) rfl (by decide) ?_
          refine mw_iload_n (dT d7_turns 44 rfl) rfl ?_
          refine mw_iload_n (dT d7_turns 45 rfl) rfl ?_
          refine mw_iconst (dT d7_turns 46 rfl) ?_
          refine mw_callVJ mv_7_sumOf ml_X7_242 (by decide) (dT d7_turns 47 rfl) (as := [mI _, mI _, mI _]) rfl rfl T (fun v5 h5 T => ?_)
          refine mw_lmul (dT d7_turns 48 rfl) ?_
          refine mw_lload (dT d7_turns 49 rfl) rfl ?_
          obtain ⟨z, T⟩ := T
          refine mw_ldiv (dT d7_turns 50 rfl) z ?_
          refine mw_aload_n (dT d7_turns 51 rfl) rfl (by decide) ?_
          refine mw_getR fl_X7_26 (dT d7_turns 52 rfl) ?_
          refine mw_iload_n (dT d7_turns 53 rfl) rfl ?_
          obtain ⟨z, T⟩ := T
          refine mw_iaload ro_36 (dT d7_turns 54 rfl) z ?_
          obtain ⟨z, T⟩ := T
          refine mw_i2l (dT d7_turns 55 rfl) z ?_
          refine mw_aload_n (dT d7_turns 56 rfl) rfl (by decide) ?_
          refine mw_getR fl_X7_29 (dT d7_turns 57 rfl) ?_
          refine mw_iload_n (dT d7_turns 58 rfl) rfl ?_
          obtain ⟨z, T⟩ := T
          refine mw_iaload ro_37 (dT d7_turns 59 rfl) z ?_
          obtain ⟨z, T⟩ := T
          refine mw_i2l (dT d7_turns 60 rfl) z ?_
          refine mw_callSJ mt_7_within ml_X7_255 (by decide) (dT d7_turns 61 rfl) (as := [mJ _, mJ _, mJ _]) rfl rfl T (fun v6 h6 T => ?_)
          refine mw_l2i (dT d7_turns 62 rfl) ?_
          refine mw_callVI mv_7_trusted ml_X7_259 (by decide) (dT d7_turns 63 rfl) (as := [mI _, mI _, mI _, mI _]) rfl rfl T (fun v7 h7 T => ?_)
          refine mw_istore (dT d7_turns 64 rfl) (by decide) ?_
          refine mw_aload_n (dT d7_turns 65 rfl) rfl (by decide) ?_
          refine mw_iload_n (dT d7_turns 66 rfl) rfl ?_
          refine mw_iload_n (dT d7_turns 67 rfl) rfl ?_
          refine mw_iload (dT d7_turns 68 rfl) rfl ?_
          refine mw_callVV mv_7_relates ml_X7_263 (by decide) (dT d7_turns 69 rfl) (as := [mI _, mI _, mI _]) rfl rfl T (fun h8 T => ?_)
          refine mw_iload_n (dT d7_turns 70 rfl) rfl ?_
          refine mw_iload (dT d7_turns 71 rfl) rfl ?_
          refine mw_iload (dT d7_turns 72 rfl) rfl ?_
          obtain ⟨z, T1, T2⟩ := T
          refine mw_icmp_ne 124 (dT d7_turns 73 rfl) (by decide) z (fun z => ?_) (fun z => ?_)
          · have T := T1 z
            refine mw_iconst (dT d7_turns 76 rfl) ?_
            refine mw_iadd (dT d7_turns 77 rfl) ?_
            refine mw_istore_n (dT d7_turns 78 rfl) (by decide) ?_
            refine mw_iinc (dT d7_turns 79 rfl) rfl (by decide) ?_
            refine mw_goto 4 (dT d7_turns 80 rfl) (by decide) ?_
            exact At.forget [4, 6, 7] T
          · have T := T2 z
            refine mw_iconst (dT d7_turns 74 rfl) ?_
            refine mw_goto 125 (dT d7_turns 75 rfl) (by decide) ?_
            refine mw_iadd (dT d7_turns 77 rfl) ?_
            refine mw_istore_n (dT d7_turns 78 rfl) (by decide) ?_
            refine mw_iinc (dT d7_turns 79 rfl) rfl (by decide) ?_
            refine mw_goto 4 (dT d7_turns 80 rfl) (by decide) ?_
            exact At.forget [4, 6, 7] T
        · have T := T2 z
          refine mw_goto 127 (dT d7_turns 31 rfl) (by decide) ?_
          refine mw_iinc (dT d7_turns 79 rfl) rfl (by decide) ?_
          refine mw_goto 4 (dT d7_turns 80 rfl) (by decide) ?_
          exact At.forget [4] T
      · have T := T2 z
        refine mw_goto 127 (dT d7_turns 21 rfl) (by decide) ?_
        refine mw_iinc (dT d7_turns 79 rfl) rfl (by decide) ?_
        refine mw_goto 4 (dT d7_turns 80 rfl) (by decide) ?_
        exact T
theorem s7_turns {K : Int → mH → Prop} {x1 : Int} {h : mH} (T : A7_turns_4 K x1 0 0 h) : OkI M7_turns [mR 30 0, mI x1] h K := by
  refine Ok.of rfl (n := 6) rfl ?_
  show At (mPI K) M7_turns 0 [mR 30 0, mI x1, mU, mU, mU, mU, mU, mU] [] h
  refine mw_iconst (dT d7_turns 0 rfl) ?_
  refine mw_istore_n (dT d7_turns 1 rfl) (by decide) ?_
  refine mw_iconst (dT d7_turns 2 rfl) ?_
  refine mw_istore_n (dT d7_turns 3 rfl) (by decide) ?_
  exact T
abbrev A7_rounds_2 (K : mH → Prop) (x1 x2 x3 : Int) (h : mH) : Prop := At (mPV K) M7_rounds 2 [mR 30 0, mI x1, mI x2, mI x3, mU] [] h
abbrev A7_rounds_10 (K : mH → Prop) (x1 x2 x3 x4 : Int) (h : mH) : Prop := At (mPV K) M7_rounds 10 [mR 30 0, mI x1, mI x2, mI x3, mI x4] [] h
theorem s7_rounds_2 {K : mH → Prop} {x1 x2 x3 : Int} {h : mH} (T : (mInR x3 ∧ mInR x1) ∧ (x1 ≤ x3 → (K h)) ∧ (¬ x1 ≤ x3 → (A7_rounds_10 K x1 x2 x3 0 h))) : A7_rounds_2 K x1 x2 x3 h := by
  refine mw_iload_n (dT d7_rounds 2 rfl) rfl ?_
  refine mw_iload_n (dT d7_rounds 3 rfl) rfl ?_
  obtain ⟨z, T1, T2⟩ := T
  refine mw_icmp_ge 44 (dT d7_rounds 4 rfl) (by decide) z (fun z => ?_) (fun z => ?_)
  · have T := T1 z
    exact mw_vret rfl (dT d7_rounds 22 rfl) ⟨rfl, T⟩
  · have T := T2 z
    refine mw_iconst (dT d7_rounds 5 rfl) ?_
    refine mw_istore (dT d7_rounds 6 rfl) (by decide) ?_
    exact T
theorem s7_rounds_10 {K : mH → Prop} {x1 x2 x3 x4 : Int} {h : mH} (T : OkI M7_factors [mR 30 0] h (fun v1 h1 => (mInR x4 ∧ mInR v1) ∧ (v1 ≤ x4 → (A7_rounds_2 K x1 x2 (x3 + 1) h1)) ∧ (¬ v1 ≤ x4 → ((mInR x4 ∧ mInR x2) ∧ (x4 = x2 → (A7_rounds_10 K x1 x2 x3 (x4 + 1) h1)) ∧ (¬ x4 = x2 → (OkI M7_turns [mR 30 0, mI x4] h1 (fun v2 h2 => A7_rounds_10 K x1 x2 x3 (x4 + 1) h2))))))) : A7_rounds_10 K x1 x2 x3 x4 h := by
  refine mw_iload (dT d7_rounds 7 rfl) rfl ?_
  refine mw_aload_n (dT d7_rounds 8 rfl) rfl (by decide) ?_
  refine mw_callVI mv_7_factors ml_X7_193 (by decide) (dT d7_rounds 9 rfl) (as := []) rfl rfl T (fun v1 h1 T => ?_)
  obtain ⟨z, T1, T2⟩ := T
  refine mw_icmp_ge 38 (dT d7_rounds 10 rfl) (by decide) z (fun z => ?_) (fun z => ?_)
  · have T := T1 z
    refine mw_iinc (dT d7_rounds 20 rfl) rfl (by decide) ?_
    refine mw_goto 2 (dT d7_rounds 21 rfl) (by decide) ?_
    exact At.forget [4] T
  · have T := T2 z
    refine mw_iload (dT d7_rounds 11 rfl) rfl ?_
    refine mw_iload_n (dT d7_rounds 12 rfl) rfl ?_
    obtain ⟨z, T1, T2⟩ := T
    refine mw_icmp_eq 32 (dT d7_rounds 13 rfl) (by decide) z (fun z => ?_) (fun z => ?_)
    · have T := T1 z
      refine mw_iinc (dT d7_rounds 18 rfl) rfl (by decide) ?_
      refine mw_goto 10 (dT d7_rounds 19 rfl) (by decide) ?_
      exact T
    · have T := T2 z
      refine mw_aload_n (dT d7_rounds 14 rfl) rfl (by decide) ?_
      refine mw_iload (dT d7_rounds 15 rfl) rfl ?_
      refine mw_callVI mv_7_turns ml_X7_266 (by decide) (dT d7_rounds 16 rfl) (as := [mI _]) rfl rfl T (fun v2 h2 T => ?_)
      refine mw_pop (dT d7_rounds 17 rfl) (fun _ z => by cases z) ?_
      refine mw_iinc (dT d7_rounds 18 rfl) rfl (by decide) ?_
      refine mw_goto 10 (dT d7_rounds 19 rfl) (by decide) ?_
      exact T
theorem s7_rounds {K : mH → Prop} {x1 : Int} {x2 : Int} {h : mH} (T : A7_rounds_2 K x1 x2 0 h) : OkV M7_rounds [mR 30 0, mI x1, mI x2] h K := by
  refine Ok.of rfl (n := 2) rfl ?_
  show At (mPV K) M7_rounds 0 [mR 30 0, mI x1, mI x2, mU, mU] [] h
  refine mw_iconst (dT d7_rounds 0 rfl) ?_
  refine mw_istore_n (dT d7_rounds 1 rfl) (by decide) ?_
  exact T
abbrev A7_paid_4 (K : Int → mH → Prop) (x1 x3 : Int) (h : mH) : Prop := At (mPJ K) M7_paid 4 [mR 30 0, mJ x1, mU, mI x3] [] h
theorem s7_paid_4 {K : Int → mH → Prop} {x1 x3 : Int} {h : mH} (T : OkI M7_many [mR 30 0] h (fun v1 h1 => (mInR x3 ∧ mInR v1) ∧ (v1 ≤ x3 → (K x1 h1)) ∧ (¬ v1 ≤ x3 → (OkJ M7_premiumOf [mR 30 0, mI x3] h1 (fun v2 h2 => A7_paid_4 K (x1 + v2) (x3 + 1) h2))))) : A7_paid_4 K x1 x3 h := by
  refine mw_iload_n (dT d7_paid 4 rfl) rfl ?_
  refine mw_aload_n (dT d7_paid 5 rfl) rfl (by decide) ?_
  refine mw_callVI mv_7_many ml_X7_200 (by decide) (dT d7_paid 6 rfl) (as := []) rfl rfl T (fun v1 h1 T => ?_)
  obtain ⟨z, T1, T2⟩ := T
  refine mw_icmp_ge 26 (dT d7_paid 7 rfl) (by decide) z (fun z => ?_) (fun z => ?_)
  · have T := T1 z
    refine mw_lload_n (dT d7_paid 16 rfl) rfl ?_
    exact mw_lret rfl (dT d7_paid 17 rfl) ⟨_, rfl, T⟩
  · have T := T2 z
    refine mw_lload_n (dT d7_paid 8 rfl) rfl ?_
    refine mw_aload_n (dT d7_paid 9 rfl) rfl (by decide) ?_
    refine mw_iload_n (dT d7_paid 10 rfl) rfl ?_
    refine mw_callVJ mv_7_premiumOf ml_X7_235 (by decide) (dT d7_paid 11 rfl) (as := [mI _]) rfl rfl T (fun v2 h2 T => ?_)
    refine mw_ladd (dT d7_paid 12 rfl) ?_
    refine mw_lstore_n (dT d7_paid 13 rfl) (by decide) ?_
    refine mw_iinc (dT d7_paid 14 rfl) rfl (by decide) ?_
    refine mw_goto 4 (dT d7_paid 15 rfl) (by decide) ?_
    exact T
theorem s7_paid {K : Int → mH → Prop} {h : mH} (T : A7_paid_4 K 0 0 h) : OkJ M7_paid [mR 30 0] h K := by
  refine Ok.of rfl (n := 3) rfl ?_
  show At (mPJ K) M7_paid 0 [mR 30 0, mU, mU, mU] [] h
  refine mw_lconst (dT d7_paid 0 rfl) ?_
  refine mw_lstore_n (dT d7_paid 1 rfl) (by decide) ?_
  refine mw_iconst (dT d7_paid 2 rfl) ?_
  refine mw_istore_n (dT d7_paid 3 rfl) (by decide) ?_
  exact T
abbrev A7_allOf_5 (K : Int → mH → Prop) (x1 x2 x4 : Int) (h : mH) : Prop := At (mPJ K) M7_allOf 5 [mR 30 0, mI x1, mJ x2, mU, mI x4] [] h
theorem s7_allOf_5 {K : Int → mH → Prop} {x1 x2 x4 : Int} {h : mH} (T : OkI M7_many [mR 30 0] h (fun v1 h1 => (mInR x4 ∧ mInR v1) ∧ (v1 ≤ x4 → (K x2 h1)) ∧ (¬ v1 ≤ x4 → ((0 ≤ ((7 * x4) + x1) ∧ ((7 * x4) + x1) < 314) ∧ ((mInR (h1 41 0 ((7 * x4) + x1))) ∧ (A7_allOf_5 K x1 (x2 + (h1 41 0 ((7 * x4) + x1))) (x4 + 1) h1)))))) : A7_allOf_5 K x1 x2 x4 h := by
  refine mw_iload (dT d7_allOf 4 rfl) rfl ?_
  refine mw_aload_n (dT d7_allOf 5 rfl) rfl (by decide) ?_
  refine mw_callVI mv_7_many ml_X7_200 (by decide) (dT d7_allOf 6 rfl) (as := []) rfl rfl T (fun v1 h1 T => ?_)
  obtain ⟨z, T1, T2⟩ := T
  refine mw_icmp_ge 36 (dT d7_allOf 7 rfl) (by decide) z (fun z => ?_) (fun z => ?_)
  · have T := T1 z
    refine mw_lload_n (dT d7_allOf 22 rfl) rfl ?_
    exact mw_lret rfl (dT d7_allOf 23 rfl) ⟨_, rfl, T⟩
  · have T := T2 z
    refine mw_lload_n (dT d7_allOf 8 rfl) rfl ?_
    refine mw_aload_n (dT d7_allOf 9 rfl) rfl (by decide) ?_
    refine mw_getR fl_X7_45 (dT d7_allOf 10 rfl) ?_
    refine mw_bipush (by decide) (dT d7_allOf 11 rfl) ?_
    refine mw_iload (dT d7_allOf 12 rfl) rfl ?_
    refine mw_imul (dT d7_allOf 13 rfl) ?_
    refine mw_iload_n (dT d7_allOf 14 rfl) rfl ?_
    refine mw_iadd (dT d7_allOf 15 rfl) ?_
    obtain ⟨z, T⟩ := T
    refine mw_iaload ro_41 (dT d7_allOf 16 rfl) z ?_
    obtain ⟨z, T⟩ := T
    refine mw_i2l (dT d7_allOf 17 rfl) z ?_
    refine mw_ladd (dT d7_allOf 18 rfl) ?_
    refine mw_lstore_n (dT d7_allOf 19 rfl) (by decide) ?_
    refine mw_iinc (dT d7_allOf 20 rfl) rfl (by decide) ?_
    refine mw_goto 5 (dT d7_allOf 21 rfl) (by decide) ?_
    exact T
theorem s7_allOf {K : Int → mH → Prop} {x1 : Int} {h : mH} (T : A7_allOf_5 K x1 0 0 h) : OkJ M7_allOf [mR 30 0, mI x1] h K := by
  refine Ok.of rfl (n := 3) rfl ?_
  show At (mPJ K) M7_allOf 0 [mR 30 0, mI x1, mU, mU, mU] [] h
  refine mw_lconst (dT d7_allOf 0 rfl) ?_
  refine mw_lstore_n (dT d7_allOf 1 rfl) (by decide) ?_
  refine mw_iconst (dT d7_allOf 2 rfl) ?_
  refine mw_istore (dT d7_allOf 3 rfl) (by decide) ?_
  exact T
theorem s7_rebases {K : mH → Prop} {h : mH} (T : OkJ M7_paid [mR 30 0] h (fun v1 h1 => (mInL v1) ∧ (v1 ≤ 0 → (K h1)) ∧ (¬ v1 ≤ 0 → ((mInR (h1 41 0 308)) ∧ (OkJ M7_allOf [mR 30 0, mI 1] h1 (fun v2 h2 => (mInL ((h1 41 0 308) * v2) ∧ mInL v1 ∧ v1 ≠ 0) ∧ (OkJ M7_within [mJ (Int.tdiv ((h1 41 0 308) * v2) v1), mJ 1, mJ 99999] h2 (fun v3 h3 => ∀ h4 : mH, h4 = mSet h3 41 0 308 v3 → (K h4))))))))) : OkV M7_rebases [mR 30 0] h K := by
  refine Ok.of rfl (n := 2) rfl ?_
  show At (mPV K) M7_rebases 0 [mR 30 0, mU, mU] [] h
  refine mw_aload_n (dT d7_rebases 0 rfl) rfl (by decide) ?_
  refine mw_callVJ mv_7_paid ml_X7_269 (by decide) (dT d7_rebases 1 rfl) (as := []) rfl rfl T (fun v1 h1 T => ?_)
  refine mw_lstore_n (dT d7_rebases 2 rfl) (by decide) ?_
  refine mw_lload_n (dT d7_rebases 3 rfl) rfl ?_
  refine mw_lconst (dT d7_rebases 4 rfl) ?_
  obtain ⟨z, T1, T2⟩ := T
  refine mw_lif_le 44 (dT d7_rebases 5 rfl) (dT d7_rebases 6 rfl) (by decide) ⟨z, by decide⟩ (fun z => ?_) (fun z => ?_)
  · have T := T1 z
    exact mw_vret rfl (dT d7_rebases 26 rfl) ⟨rfl, T⟩
  · have T := T2 z
    refine mw_aload_n (dT d7_rebases 7 rfl) rfl (by decide) ?_
    refine mw_getR fl_X7_45 (dT d7_rebases 8 rfl) ?_
    refine mw_sipush (by decide) (dT d7_rebases 9 rfl) ?_
    refine mw_aload_n (dT d7_rebases 10 rfl) rfl (by decide) ?_
    refine mw_getR fl_X7_45 (dT d7_rebases 11 rfl) ?_
    refine mw_sipush (by decide) (dT d7_rebases 12 rfl) ?_
    refine mw_iaload ro_41 (dT d7_rebases 13 rfl) (by decide) ?_
    obtain ⟨z, T⟩ := T
    refine mw_i2l (dT d7_rebases 14 rfl) z ?_
    refine mw_aload_n (dT d7_rebases 15 rfl) rfl (by decide) ?_
    refine mw_iconst (dT d7_rebases 16 rfl) ?_
    refine mw_callVJ mv_7_allOf ml_X7_273 (by decide) (dT d7_rebases 17 rfl) (as := [mI _]) rfl rfl T (fun v2 h2 T => ?_)
    refine mw_lmul (dT d7_rebases 18 rfl) ?_
    refine mw_lload_n (dT d7_rebases 19 rfl) rfl ?_
    obtain ⟨z, T⟩ := T
    refine mw_ldiv (dT d7_rebases 20 rfl) z ?_
    refine mw_lconst (dT d7_rebases 21 rfl) ?_
    refine mw_ldc2 kl_X7_276 (dT d7_rebases 22 rfl) ?_
    refine mw_callSJ mt_7_within ml_X7_255 (by decide) (dT d7_rebases 23 rfl) (as := [mJ _, mJ _, mJ _]) rfl rfl T (fun v3 h3 T => ?_)
    refine mw_l2i (dT d7_rebases 24 rfl) ?_
    have T := T _ rfl
    refine mw_iastore ro_41 (dT d7_rebases 25 rfl) (by decide) ?_
    exact mw_vret rfl (dT d7_rebases 26 rfl) ⟨rfl, T⟩
abbrev A7_levels_10 (K : mH → Prop) (x1 : Int) (h : mH) : Prop := At (mPV K) M7_levels 10 [mR 30 0, mI x1, mU, mU, mU] [] h
abbrev A7_levels_22 (K : mH → Prop) (x1 x2 x3 : Int) (h : mH) : Prop := At (mPV K) M7_levels 22 [mR 30 0, mI x1, mI x2, mI x3, mU] [] h
abbrev A7_levels_110 (K : mH → Prop) (x1 x2 x3 x4 : Int) (h : mH) : Prop := At (mPV K) M7_levels 110 [mR 30 0, mI x1, mI x2, mI x3, mI x4] [] h
theorem s7_levels_10 {K : mH → Prop} {x1 : Int} {h : mH} (T : OkI M7_factors [mR 30 0] h (fun v1 h1 => (mInR x1 ∧ mInR v1) ∧ (v1 ≤ x1 → (K h1)) ∧ (¬ v1 ≤ x1 → (A7_levels_22 K x1 0 1 h1)))) : A7_levels_10 K x1 h := by
  refine mw_iload_n (dT d7_levels 6 rfl) rfl ?_
  refine mw_aload_n (dT d7_levels 7 rfl) rfl (by decide) ?_
  refine mw_callVI mv_7_factors ml_X7_193 (by decide) (dT d7_levels 8 rfl) (as := []) rfl rfl T (fun v1 h1 T => ?_)
  obtain ⟨z, T1, T2⟩ := T
  refine mw_icmp_ge 185 (dT d7_levels 9 rfl) (by decide) z (fun z => ?_) (fun z => ?_)
  · have T := T1 z
    exact mw_vret rfl (dT d7_levels 109 rfl) ⟨rfl, T⟩
  · have T := T2 z
    refine mw_iconst (dT d7_levels 10 rfl) ?_
    refine mw_istore_n (dT d7_levels 11 rfl) (by decide) ?_
    refine mw_iconst (dT d7_levels 12 rfl) ?_
    refine mw_istore_n (dT d7_levels 13 rfl) (by decide) ?_
    exact T
theorem s7_levels_22 {K : mH → Prop} {x1 x2 x3 : Int} {h : mH} (T : (0 ≤ x1 ∧ x1 < 8) ∧ ((mInR x3 ∧ mInR (h 35 0 x1)) ∧ ((h 35 0 x1) ≤ x3 → (OkI M7_relativityOf [mR 30 0, mI x1, mI x2] h (fun v1 h1 => (mInR (h1 41 0 308)) ∧ ((mInR v1) ∧ ((mInL ((h1 41 0 308) * v1)) ∧ (OkJ M7_within [mJ (Int.tdiv ((h1 41 0 308) * v1) 10000), mJ 1, mJ 99999] h1 (fun v2 h2 => ∀ h3 : mH, h3 = mSet h2 41 0 308 v2 → (A7_levels_110 K x1 x2 v1 0 h3)))))))) ∧ (¬ (h 35 0 x1) ≤ x3 → (OkI M7_firstOf [mR 30 0, mI x1, mI x3] h (fun v3 h4 => (mInR v3 ∧ mInR x3) ∧ (¬ v3 = x3 → (A7_levels_22 K x1 x2 (x3 + 1) h4)) ∧ (v3 = x3 → (OkJ M7_sumOf [mR 30 0, mI x1, mI x3, mI 0] h4 (fun v4 h5 => OkJ M7_sumOf [mR 30 0, mI x1, mI x2, mI 0] h5 (fun v5 h6 => (mInL v4 ∧ mInL v5) ∧ (v4 ≤ v5 → (A7_levels_22 K x1 x2 (x3 + 1) h6)) ∧ (¬ v4 ≤ v5 → (A7_levels_22 K x1 x3 (x3 + 1) h6))))))))))) : A7_levels_22 K x1 x2 x3 h := by
  refine mw_iload_n (dT d7_levels 14 rfl) rfl ?_
  refine mw_aload_n (dT d7_levels 15 rfl) rfl (by decide) ?_
  refine mw_getR fl_X7_23 (dT d7_levels 16 rfl) ?_
  refine mw_iload_n (dT d7_levels 17 rfl) rfl ?_
  obtain ⟨z, T⟩ := T
  refine mw_iaload ro_35 (dT d7_levels 18 rfl) z ?_
  obtain ⟨z, T1, T2⟩ := T
  refine mw_icmp_ge 68 (dT d7_levels 19 rfl) (by decide) z (fun z => ?_) (fun z => ?_)
  · have T := T1 z
    refine mw_aload_n (dT d7_levels 42 rfl) rfl (by decide) ?_
    refine mw_iload_n (dT d7_levels 43 rfl) rfl ?_
    refine mw_iload_n (dT d7_levels 44 rfl) rfl ?_
    refine mw_callVI mv_7_relativityOf ml_X7_222 (by decide) (dT d7_levels 45 rfl) (as := [mI _, mI _]) rfl rfl T (fun v1 h1 T => ?_)
    refine mw_istore_n (dT d7_levels 46 rfl) (by decide) ?_
    refine mw_aload_n (dT d7_levels 47 rfl) rfl (by decide) ?_
    refine mw_getR fl_X7_45 (dT d7_levels 48 rfl) ?_
    refine mw_sipush (by decide) (dT d7_levels 49 rfl) ?_
    refine mw_aload_n (dT d7_levels 50 rfl) rfl (by decide) ?_
    refine mw_getR fl_X7_45 (dT d7_levels 51 rfl) ?_
    refine mw_sipush (by decide) (dT d7_levels 52 rfl) ?_
    refine mw_iaload ro_41 (dT d7_levels 53 rfl) (by decide) ?_
    obtain ⟨z, T⟩ := T
    refine mw_i2l (dT d7_levels 54 rfl) z ?_
    refine mw_iload_n (dT d7_levels 55 rfl) rfl ?_
    obtain ⟨z, T⟩ := T
    refine mw_i2l (dT d7_levels 56 rfl) z ?_
    refine mw_lmul (dT d7_levels 57 rfl) ?_
    refine mw_ldc2 kl_X7_225 (dT d7_levels 58 rfl) ?_
    obtain ⟨z, T⟩ := T
    refine mw_ldiv (dT d7_levels 59 rfl) ⟨z, by decide, by decide⟩ ?_
    refine mw_lconst (dT d7_levels 60 rfl) ?_
    refine mw_ldc2 kl_X7_276 (dT d7_levels 61 rfl) ?_
    refine mw_callSJ mt_7_within ml_X7_255 (by decide) (dT d7_levels 62 rfl) (as := [mJ _, mJ _, mJ _]) rfl rfl T (fun v2 h2 T => ?_)
    refine mw_l2i (dT d7_levels 63 rfl) ?_
    have T := T _ rfl
    refine mw_iastore ro_41 (dT d7_levels 64 rfl) (by decide) ?_
    refine mw_iconst (dT d7_levels 65 rfl) ?_
    refine mw_istore (dT d7_levels 66 rfl) (by decide) ?_
    exact T
  · have T := T2 z
    refine mw_aload_n (dT d7_levels 20 rfl) rfl (by decide) ?_
    refine mw_iload_n (dT d7_levels 21 rfl) rfl ?_
    refine mw_iload_n (dT d7_levels 22 rfl) rfl ?_
    refine mw_callVI mv_7_firstOf ml_X7_210 (by decide) (dT d7_levels 23 rfl) (as := [mI _, mI _]) rfl rfl T (fun v3 h4 T => ?_)
    refine mw_iload_n (dT d7_levels 24 rfl) rfl ?_
    obtain ⟨z, T1, T2⟩ := T
    refine mw_icmp_ne 62 (dT d7_levels 25 rfl) (by decide) z (fun z => ?_) (fun z => ?_)
    · have T := T1 z
      refine mw_iinc (dT d7_levels 40 rfl) rfl (by decide) ?_
      refine mw_goto 22 (dT d7_levels 41 rfl) (by decide) ?_
      exact T
    · have T := T2 z
      refine mw_aload_n (dT d7_levels 26 rfl) rfl (by decide) ?_
      refine mw_iload_n (dT d7_levels 27 rfl) rfl ?_
      refine mw_iload_n (dT d7_levels 28 rfl) rfl ?_
      refine mw_iconst (dT d7_levels 29 rfl) ?_
      refine mw_callVJ mv_7_sumOf ml_X7_242 (by decide) (dT d7_levels 30 rfl) (as := [mI _, mI _, mI _]) rfl rfl T (fun v4 h5 T => ?_)
      refine mw_aload_n (dT d7_levels 31 rfl) rfl (by decide) ?_
      refine mw_iload_n (dT d7_levels 32 rfl) rfl ?_
      refine mw_iload_n (dT d7_levels 33 rfl) rfl ?_
      refine mw_iconst (dT d7_levels 34 rfl) ?_
      refine mw_callVJ mv_7_sumOf ml_X7_242 (by decide) (dT d7_levels 35 rfl) (as := [mI _, mI _, mI _]) rfl rfl T (fun v5 h6 T => ?_)
      obtain ⟨z, T1, T2⟩ := T
      refine mw_lif_le 62 (dT d7_levels 36 rfl) (dT d7_levels 37 rfl) (by decide) z (fun z => ?_) (fun z => ?_)
      · have T := T1 z
        refine mw_iinc (dT d7_levels 40 rfl) rfl (by decide) ?_
        refine mw_goto 22 (dT d7_levels 41 rfl) (by decide) ?_
        exact T
      · have T := T2 z
        refine mw_iload_n (dT d7_levels 38 rfl) rfl ?_
        refine mw_istore_n (dT d7_levels 39 rfl) (by decide) ?_
        refine mw_iinc (dT d7_levels 40 rfl) rfl (by decide) ?_
        refine mw_goto 22 (dT d7_levels 41 rfl) (by decide) ?_
        exact T
theorem s7_levels_110 {K : mH → Prop} {x1 x2 x3 x4 : Int} {h : mH} (T : (0 ≤ x1 ∧ x1 < 8) ∧ ((mInR x4 ∧ mInR (h 35 0 x1)) ∧ ((h 35 0 x1) ≤ x4 → (A7_levels_10 K (x1 + 1) h)) ∧ (¬ (h 35 0 x1) ≤ x4 → (OkI M7_firstOf [mR 30 0, mI x1, mI x4] h (fun v1 h1 => (mInR v1 ∧ mInR x4) ∧ (¬ v1 = x4 → (A7_levels_110 K x1 x2 x3 (x4 + 1) h1)) ∧ (v1 = x4 → (OkI M7_relativityOf [mR 30 0, mI x1, mI x4] h1 (fun v2 h2 => (mInR v2) ∧ ((mInR x3) ∧ ((mInL (v2 * 10000) ∧ mInL x3 ∧ x3 ≠ 0) ∧ ((0 ≤ x1 ∧ x1 < 8) ∧ ((mInR (h2 36 0 x1)) ∧ ((0 ≤ x1 ∧ x1 < 8) ∧ ((mInR (h2 37 0 x1)) ∧ (OkJ M7_within [mJ (Int.tdiv (v2 * 10000) x3), mJ (h2 36 0 x1), mJ (h2 37 0 x1)] h2 (fun v3 h3 => OkV M7_relates [mR 30 0, mI x1, mI x4, mI v3] h3 (fun h4 => A7_levels_110 K x1 x2 x3 (x4 + 1) h4))))))))))))))))) : A7_levels_110 K x1 x2 x3 x4 h := by
  refine mw_iload (dT d7_levels 67 rfl) rfl ?_
  refine mw_aload_n (dT d7_levels 68 rfl) rfl (by decide) ?_
  refine mw_getR fl_X7_23 (dT d7_levels 69 rfl) ?_
  refine mw_iload_n (dT d7_levels 70 rfl) rfl ?_
  obtain ⟨z, T⟩ := T
  refine mw_iaload ro_35 (dT d7_levels 71 rfl) z ?_
  obtain ⟨z, T1, T2⟩ := T
  refine mw_icmp_ge 179 (dT d7_levels 72 rfl) (by decide) z (fun z => ?_) (fun z => ?_)
  · have T := T1 z
    refine mw_iinc (dT d7_levels 107 rfl) rfl (by decide) ?_
    refine mw_goto 10 (dT d7_levels 108 rfl) (by decide) ?_
    exact At.forget [2, 3, 4] T
  · have T := T2 z
    refine mw_aload_n (dT d7_levels 73 rfl) rfl (by decide) ?_
    refine mw_iload_n (dT d7_levels 74 rfl) rfl ?_
    refine mw_iload (dT d7_levels 75 rfl) rfl ?_
    refine mw_callVI mv_7_firstOf ml_X7_210 (by decide) (dT d7_levels 76 rfl) (as := [mI _, mI _]) rfl rfl T (fun v1 h1 T => ?_)
    refine mw_iload (dT d7_levels 77 rfl) rfl ?_
    obtain ⟨z, T1, T2⟩ := T
    refine mw_icmp_ne 173 (dT d7_levels 78 rfl) (by decide) z (fun z => ?_) (fun z => ?_)
    · have T := T1 z
      refine mw_iinc (dT d7_levels 105 rfl) rfl (by decide) ?_
      refine mw_goto 110 (dT d7_levels 106 rfl) (by decide) ?_
      exact T
    · have T := T2 z
      refine mw_aload_n (dT d7_levels 79 rfl) rfl (by decide) ?_
      refine mw_iload_n (dT d7_levels 80 rfl) rfl ?_
      refine mw_iload (dT d7_levels 81 rfl) rfl ?_
      refine mw_aload_n (dT d7_levels 82 rfl) rfl (by decide) ?_
      refine mw_iload_n (dT d7_levels 83 rfl) rfl ?_
      refine mw_iload (dT d7_levels 84 rfl) rfl ?_
      refine mw_callVI mv_7_relativityOf ml_X7_222 (by decide) (dT d7_levels 85 rfl) (as := [mI _, mI _]) rfl rfl T (fun v2 h2 T => ?_)
      obtain ⟨z, T⟩ := T
      refine mw_i2l (dT d7_levels 86 rfl) z ?_
      refine mw_ldc2 kl_X7_225 (dT d7_levels 87 rfl) ?_
      refine mw_lmul (dT d7_levels 88 rfl) ?_
      refine mw_iload_n (dT d7_levels 89 rfl) rfl ?_
      obtain ⟨z, T⟩ := T
      refine mw_i2l (dT d7_levels 90 rfl) z ?_
      obtain ⟨z, T⟩ := T
      refine mw_ldiv (dT d7_levels 91 rfl) z ?_
      refine mw_aload_n (dT d7_levels 92 rfl) rfl (by decide) ?_
      refine mw_getR fl_X7_26 (dT d7_levels 93 rfl) ?_
      refine mw_iload_n (dT d7_levels 94 rfl) rfl ?_
      obtain ⟨z, T⟩ := T
      refine mw_iaload ro_36 (dT d7_levels 95 rfl) z ?_
      obtain ⟨z, T⟩ := T
      refine mw_i2l (dT d7_levels 96 rfl) z ?_
      refine mw_aload_n (dT d7_levels 97 rfl) rfl (by decide) ?_
      refine mw_getR fl_X7_29 (dT d7_levels 98 rfl) ?_
      refine mw_iload_n (dT d7_levels 99 rfl) rfl ?_
      obtain ⟨z, T⟩ := T
      refine mw_iaload ro_37 (dT d7_levels 100 rfl) z ?_
      obtain ⟨z, T⟩ := T
      refine mw_i2l (dT d7_levels 101 rfl) z ?_
      refine mw_callSJ mt_7_within ml_X7_255 (by decide) (dT d7_levels 102 rfl) (as := [mJ _, mJ _, mJ _]) rfl rfl T (fun v3 h3 T => ?_)
      refine mw_l2i (dT d7_levels 103 rfl) ?_
      refine mw_callVV mv_7_relates ml_X7_263 (by decide) (dT d7_levels 104 rfl) (as := [mI _, mI _, mI _]) rfl rfl T (fun h4 T => ?_)
      refine mw_iinc (dT d7_levels 105 rfl) rfl (by decide) ?_
      refine mw_goto 110 (dT d7_levels 106 rfl) (by decide) ?_
      exact T
theorem s7_levels {K : mH → Prop} {h : mH} (T : OkI M7_many [mR 30 0] h (fun v1 h1 => (mInR v1) ∧ (¬ v1 = 0 → (A7_levels_10 K 0 h1)) ∧ (v1 = 0 → (K h1)))) : OkV M7_levels [mR 30 0] h K := by
  refine Ok.of rfl (n := 4) rfl ?_
  show At (mPV K) M7_levels 0 [mR 30 0, mU, mU, mU, mU] [] h
  refine mw_aload_n (dT d7_levels 0 rfl) rfl (by decide) ?_
  refine mw_callVI mv_7_many ml_X7_200 (by decide) (dT d7_levels 1 rfl) (as := []) rfl rfl T (fun v1 h1 T => ?_)
  obtain ⟨z, T1, T2⟩ := T
  refine mw_if_ne 8 (dT d7_levels 2 rfl) (by decide) z (fun z => ?_) (fun z => ?_)
  · have T := T1 z
    refine mw_iconst (dT d7_levels 4 rfl) ?_
    refine mw_istore_n (dT d7_levels 5 rfl) (by decide) ?_
    exact T
  · have T := T2 z
    exact mw_vret rfl (dT d7_levels 3 rfl) ⟨rfl, T⟩
theorem s7_turn {K : Int → mH → Prop} {x1 : Int} {h : mH} (T : ∀ h1 : mH, h1 = mSet h 30 0 0 0 → (OkI M7_isFactor [mR 30 0, mI x1] h1 (fun v1 h2 => (mInR v1) ∧ (¬ v1 = 0 → (OkV M7_remembers [mR 30 0] h2 (fun h3 => OkI M7_turns [mR 30 0, mI x1] h3 (fun v2 h4 => K v2 h4)))) ∧ (v1 = 0 → (K ((-1)) h2))))) : OkI M7_turn [mR 30 0, mI x1] h K := by
  refine Ok.of rfl (n := 0) rfl ?_
  show At (mPI K) M7_turn 0 [mR 30 0, mI x1] [] h
  refine mw_aload_n (dT d7_turn 0 rfl) rfl (by decide) ?_
  refine mw_iconst (dT d7_turn 1 rfl) ?_
  have T := T _ rfl
  refine mw_putI fp_X7_69 (dT d7_turn 2 rfl) ?_
  refine mw_aload_n (dT d7_turn 3 rfl) rfl (by decide) ?_
  refine mw_iload_n (dT d7_turn 4 rfl) rfl ?_
  refine mw_callVI mv_7_isFactor ml_X7_203 (by decide) (dT d7_turn 5 rfl) (as := [mI _]) rfl rfl T (fun v1 h2 T => ?_)
  obtain ⟨z, T1, T2⟩ := T
  refine mw_if_ne 15 (dT d7_turn 6 rfl) (by decide) z (fun z => ?_) (fun z => ?_)
  · have T := T1 z
    refine mw_aload_n (dT d7_turn 9 rfl) rfl (by decide) ?_
    refine mw_callVV mv_7_remembers ml_X7_278 (by decide) (dT d7_turn 10 rfl) (as := []) rfl rfl T (fun h3 T => ?_)
    refine mw_aload_n (dT d7_turn 11 rfl) rfl (by decide) ?_
    refine mw_iload_n (dT d7_turn 12 rfl) rfl ?_
    refine mw_callVI mv_7_turns ml_X7_266 (by decide) (dT d7_turn 13 rfl) (as := [mI _]) rfl rfl T (fun v2 h4 T => ?_)
    exact mw_iret rfl (dT d7_turn 14 rfl) ⟨_, rfl, T⟩
  · have T := T2 z
    refine mw_iconst (dT d7_turn 7 rfl) ?_
    exact mw_iret rfl (dT d7_turn 8 rfl) ⟨_, rfl, T⟩
theorem s7_round {K : Int → mH → Prop} {x1 : Int} {h : mH} (T : ∀ h1 : mH, h1 = mSet h 30 0 0 0 → ((mInR x1) ∧ (x1 < 1 → (K ((-1)) h1)) ∧ (¬ x1 < 1 → ((mInR x1) ∧ (x1 ≤ 50 → (OkV M7_remembers [mR 30 0] h1 (fun h2 => OkV M7_rounds [mR 30 0, mI x1, mI ((-1))] h2 (fun h3 => OkI M7_unbalancedNow [mR 30 0] h3 (fun v1 h4 => K v1 h4))))) ∧ (¬ x1 ≤ 50 → (K ((-1)) h1)))))) : OkI M7_round [mR 30 0, mI x1] h K := by
  refine Ok.of rfl (n := 0) rfl ?_
  show At (mPI K) M7_round 0 [mR 30 0, mI x1] [] h
  refine mw_aload_n (dT d7_round 0 rfl) rfl (by decide) ?_
  refine mw_iconst (dT d7_round 1 rfl) ?_
  have T := T _ rfl
  refine mw_putI fp_X7_69 (dT d7_round 2 rfl) ?_
  refine mw_iload_n (dT d7_round 3 rfl) rfl ?_
  refine mw_iconst (dT d7_round 4 rfl) ?_
  obtain ⟨z, T1, T2⟩ := T
  refine mw_icmp_lt 16 (dT d7_round 5 rfl) (by decide) ⟨z, by decide⟩ (fun z => ?_) (fun z => ?_)
  · have T := T1 z
    refine mw_iconst (dT d7_round 9 rfl) ?_
    exact mw_iret rfl (dT d7_round 10 rfl) ⟨_, rfl, T⟩
  · have T := T2 z
    refine mw_iload_n (dT d7_round 6 rfl) rfl ?_
    refine mw_bipush (by decide) (dT d7_round 7 rfl) ?_
    obtain ⟨z, T1, T2⟩ := T
    refine mw_icmp_le 18 (dT d7_round 8 rfl) (by decide) ⟨z, by decide⟩ (fun z => ?_) (fun z => ?_)
    · have T := T1 z
      refine mw_aload_n (dT d7_round 11 rfl) rfl (by decide) ?_
      refine mw_callVV mv_7_remembers ml_X7_278 (by decide) (dT d7_round 12 rfl) (as := []) rfl rfl T (fun h2 T => ?_)
      refine mw_aload_n (dT d7_round 13 rfl) rfl (by decide) ?_
      refine mw_iload_n (dT d7_round 14 rfl) rfl ?_
      refine mw_iconst (dT d7_round 15 rfl) ?_
      refine mw_callVV mv_7_rounds ml_X7_281 (by decide) (dT d7_round 16 rfl) (as := [mI _, mI _]) rfl rfl T (fun h3 T => ?_)
      refine mw_aload_n (dT d7_round 17 rfl) rfl (by decide) ?_
      refine mw_callVI mv_7_unbalancedNow ml_X7_284 (by decide) (dT d7_round 18 rfl) (as := []) rfl rfl T (fun v1 h4 T => ?_)
      exact mw_iret rfl (dT d7_round 19 rfl) ⟨_, rfl, T⟩
    · have T := T2 z
      refine mw_iconst (dT d7_round 9 rfl) ?_
      exact mw_iret rfl (dT d7_round 10 rfl) ⟨_, rfl, T⟩
theorem s7_rebase {K : Int → mH → Prop} {h : mH} (T : ∀ h1 : mH, h1 = mSet h 30 0 0 0 → (OkV M7_remembers [mR 30 0] h1 (fun h2 => OkV M7_rebases [mR 30 0] h2 (fun h3 => K (h3 41 0 308) h3)))) : OkI M7_rebase [mR 30 0] h K := by
  refine Ok.of rfl (n := 0) rfl ?_
  show At (mPI K) M7_rebase 0 [mR 30 0] [] h
  refine mw_aload_n (dT d7_rebase 0 rfl) rfl (by decide) ?_
  refine mw_iconst (dT d7_rebase 1 rfl) ?_
  have T := T _ rfl
  refine mw_putI fp_X7_69 (dT d7_rebase 2 rfl) ?_
  refine mw_aload_n (dT d7_rebase 3 rfl) rfl (by decide) ?_
  refine mw_callVV mv_7_remembers ml_X7_278 (by decide) (dT d7_rebase 4 rfl) (as := []) rfl rfl T (fun h2 T => ?_)
  refine mw_aload_n (dT d7_rebase 5 rfl) rfl (by decide) ?_
  refine mw_callVV mv_7_rebases ml_X7_287 (by decide) (dT d7_rebase 6 rfl) (as := []) rfl rfl T (fun h3 T => ?_)
  refine mw_aload_n (dT d7_rebase 7 rfl) rfl (by decide) ?_
  refine mw_getR fl_X7_45 (dT d7_rebase 8 rfl) ?_
  refine mw_sipush (by decide) (dT d7_rebase 9 rfl) ?_
  refine mw_iaload ro_41 (dT d7_rebase 10 rfl) (by decide) ?_
  exact mw_iret rfl (dT d7_rebase 11 rfl) ⟨_, rfl, T⟩
theorem s7_level {K : Int → mH → Prop} {h : mH} (T : ∀ h1 : mH, h1 = mSet h 30 0 0 0 → (OkV M7_remembers [mR 30 0] h1 (fun h2 => OkV M7_levels [mR 30 0] h2 (fun h3 => K (h3 41 0 308) h3)))) : OkI M7_level [mR 30 0] h K := by
  refine Ok.of rfl (n := 0) rfl ?_
  show At (mPI K) M7_level 0 [mR 30 0] [] h
  refine mw_aload_n (dT d7_level 0 rfl) rfl (by decide) ?_
  refine mw_iconst (dT d7_level 1 rfl) ?_
  have T := T _ rfl
  refine mw_putI fp_X7_69 (dT d7_level 2 rfl) ?_
  refine mw_aload_n (dT d7_level 3 rfl) rfl (by decide) ?_
  refine mw_callVV mv_7_remembers ml_X7_278 (by decide) (dT d7_level 4 rfl) (as := []) rfl rfl T (fun h2 T => ?_)
  refine mw_aload_n (dT d7_level 5 rfl) rfl (by decide) ?_
  refine mw_callVV mv_7_levels ml_X7_290 (by decide) (dT d7_level 6 rfl) (as := []) rfl rfl T (fun h3 T => ?_)
  refine mw_aload_n (dT d7_level 7 rfl) rfl (by decide) ?_
  refine mw_getR fl_X7_45 (dT d7_level 8 rfl) ?_
  refine mw_sipush (by decide) (dT d7_level 9 rfl) ?_
  refine mw_iaload ro_41 (dT d7_level 10 rfl) (by decide) ?_
  exact mw_iret rfl (dT d7_level 11 rfl) ⟨_, rfl, T⟩
theorem s7_relativity {K : Int → mH → Prop} {x1 : Int} {x2 : Int} {x3 : Int} {h : mH} (T : ∀ h1 : mH, h1 = mSet h 30 0 0 0 → (OkI M7_isLevel [mR 30 0, mI x1, mI x2] h1 (fun v1 h2 => (mInR v1) ∧ (v1 = 0 → (K ((-1)) h2)) ∧ (¬ v1 = 0 → ((0 ≤ x1 ∧ x1 < 8) ∧ ((mInR x3 ∧ mInR (h2 36 0 x1)) ∧ (x3 < (h2 36 0 x1) → (K ((-1)) h2)) ∧ (¬ x3 < (h2 36 0 x1) → ((0 ≤ x1 ∧ x1 < 8) ∧ ((mInR x3 ∧ mInR (h2 37 0 x1)) ∧ (x3 ≤ (h2 37 0 x1) → (OkI M7_relativityOf [mR 30 0, mI x1, mI x2] h2 (fun v2 h3 => OkV M7_remembers [mR 30 0] h3 (fun h4 => OkV M7_relates [mR 30 0, mI x1, mI x2, mI x3] h4 (fun h5 => K v2 h5))))) ∧ (¬ x3 ≤ (h2 37 0 x1) → (K ((-1)) h2))))))))))) : OkI M7_relativity [mR 30 0, mI x1, mI x2, mI x3] h K := by
  refine Ok.of rfl (n := 1) rfl ?_
  show At (mPI K) M7_relativity 0 [mR 30 0, mI x1, mI x2, mI x3, mU] [] h
  refine mw_aload_n (dT d7_relativity 0 rfl) rfl (by decide) ?_
  refine mw_iconst (dT d7_relativity 1 rfl) ?_
  have T := T _ rfl
  refine mw_putI fp_X7_69 (dT d7_relativity 2 rfl) ?_
  refine mw_aload_n (dT d7_relativity 3 rfl) rfl (by decide) ?_
  refine mw_iload_n (dT d7_relativity 4 rfl) rfl ?_
  refine mw_iload_n (dT d7_relativity 5 rfl) rfl ?_
  refine mw_callVI mv_7_isLevel ml_X7_292 (by decide) (dT d7_relativity 6 rfl) (as := [mI _, mI _]) rfl rfl T (fun v1 h2 T => ?_)
  obtain ⟨z, T1, T2⟩ := T
  refine mw_if_eq 34 (dT d7_relativity 7 rfl) (by decide) z (fun z => ?_) (fun z => ?_)
  · have T := T1 z
    refine mw_iconst (dT d7_relativity 20 rfl) ?_
    exact mw_iret rfl (dT d7_relativity 21 rfl) ⟨_, rfl, T⟩
  · have T := T2 z
    refine mw_iload_n (dT d7_relativity 8 rfl) rfl ?_
    refine mw_aload_n (dT d7_relativity 9 rfl) rfl (by decide) ?_
    refine mw_getR fl_X7_26 (dT d7_relativity 10 rfl) ?_
    refine mw_iload_n (dT d7_relativity 11 rfl) rfl ?_
    obtain ⟨z, T⟩ := T
    refine mw_iaload ro_36 (dT d7_relativity 12 rfl) z ?_
    obtain ⟨z, T1, T2⟩ := T
    refine mw_icmp_lt 34 (dT d7_relativity 13 rfl) (by decide) z (fun z => ?_) (fun z => ?_)
    · have T := T1 z
      refine mw_iconst (dT d7_relativity 20 rfl) ?_
      exact mw_iret rfl (dT d7_relativity 21 rfl) ⟨_, rfl, T⟩
    · have T := T2 z
      refine mw_iload_n (dT d7_relativity 14 rfl) rfl ?_
      refine mw_aload_n (dT d7_relativity 15 rfl) rfl (by decide) ?_
      refine mw_getR fl_X7_29 (dT d7_relativity 16 rfl) ?_
      refine mw_iload_n (dT d7_relativity 17 rfl) rfl ?_
      obtain ⟨z, T⟩ := T
      refine mw_iaload ro_37 (dT d7_relativity 18 rfl) z ?_
      obtain ⟨z, T1, T2⟩ := T
      refine mw_icmp_le 36 (dT d7_relativity 19 rfl) (by decide) z (fun z => ?_) (fun z => ?_)
      · have T := T1 z
        refine mw_aload_n (dT d7_relativity 22 rfl) rfl (by decide) ?_
        refine mw_iload_n (dT d7_relativity 23 rfl) rfl ?_
        refine mw_iload_n (dT d7_relativity 24 rfl) rfl ?_
        refine mw_callVI mv_7_relativityOf ml_X7_222 (by decide) (dT d7_relativity 25 rfl) (as := [mI _, mI _]) rfl rfl T (fun v2 h3 T => ?_)
        refine mw_istore (dT d7_relativity 26 rfl) (by decide) ?_
        refine mw_aload_n (dT d7_relativity 27 rfl) rfl (by decide) ?_
        refine mw_callVV mv_7_remembers ml_X7_278 (by decide) (dT d7_relativity 28 rfl) (as := []) rfl rfl T (fun h4 T => ?_)
        refine mw_aload_n (dT d7_relativity 29 rfl) rfl (by decide) ?_
        refine mw_iload_n (dT d7_relativity 30 rfl) rfl ?_
        refine mw_iload_n (dT d7_relativity 31 rfl) rfl ?_
        refine mw_iload_n (dT d7_relativity 32 rfl) rfl ?_
        refine mw_callVV mv_7_relates ml_X7_263 (by decide) (dT d7_relativity 33 rfl) (as := [mI _, mI _, mI _]) rfl rfl T (fun h5 T => ?_)
        refine mw_iload (dT d7_relativity 34 rfl) rfl ?_
        exact mw_iret rfl (dT d7_relativity 35 rfl) ⟨_, rfl, T⟩
      · have T := T2 z
        refine mw_iconst (dT d7_relativity 20 rfl) ?_
        exact mw_iret rfl (dT d7_relativity 21 rfl) ⟨_, rfl, T⟩
theorem s7_claims {K : Int → mH → Prop} {x1 : Int} {x2 : Int} {h : mH} (T : ∀ h1 : mH, h1 = mSet h 30 0 0 0 → (OkI M7_isRisk [mR 30 0, mI x1] h1 (fun v1 h2 => (mInR v1) ∧ (v1 = 0 → (K ((-1)) h2)) ∧ (¬ v1 = 0 → ((mInR x2) ∧ (x2 < 0 → (K ((-1)) h2)) ∧ (¬ x2 < 0 → ((mInR x2) ∧ (x2 ≤ 99999 → ((0 ≤ ((7 * x1) + 1) ∧ ((7 * x1) + 1) < 314) ∧ (OkV M7_remembers [mR 30 0] h2 (fun h3 => (0 ≤ ((7 * x1) + 1) ∧ ((7 * x1) + 1) < 314) ∧ (∀ h4 : mH, h4 = mSet h3 41 0 ((7 * x1) + 1) x2 → (K (h2 41 0 ((7 * x1) + 1)) h4)))))) ∧ (¬ x2 ≤ 99999 → (K ((-1)) h2))))))))) : OkI M7_claims [mR 30 0, mI x1, mI x2] h K := by
  refine Ok.of rfl (n := 1) rfl ?_
  show At (mPI K) M7_claims 0 [mR 30 0, mI x1, mI x2, mU] [] h
  refine mw_aload_n (dT d7_claims 0 rfl) rfl (by decide) ?_
  refine mw_iconst (dT d7_claims 1 rfl) ?_
  have T := T _ rfl
  refine mw_putI fp_X7_69 (dT d7_claims 2 rfl) ?_
  refine mw_aload_n (dT d7_claims 3 rfl) rfl (by decide) ?_
  refine mw_iload_n (dT d7_claims 4 rfl) rfl ?_
  refine mw_callVI mv_7_isRisk ml_X7_295 (by decide) (dT d7_claims 5 rfl) (as := [mI _]) rfl rfl T (fun v1 h2 T => ?_)
  obtain ⟨z, T1, T2⟩ := T
  refine mw_if_eq 23 (dT d7_claims 6 rfl) (by decide) z (fun z => ?_) (fun z => ?_)
  · have T := T1 z
    refine mw_iconst (dT d7_claims 12 rfl) ?_
    exact mw_iret rfl (dT d7_claims 13 rfl) ⟨_, rfl, T⟩
  · have T := T2 z
    refine mw_iload_n (dT d7_claims 7 rfl) rfl ?_
    obtain ⟨z, T1, T2⟩ := T
    refine mw_if_lt 23 (dT d7_claims 8 rfl) (by decide) z (fun z => ?_) (fun z => ?_)
    · have T := T1 z
      refine mw_iconst (dT d7_claims 12 rfl) ?_
      exact mw_iret rfl (dT d7_claims 13 rfl) ⟨_, rfl, T⟩
    · have T := T2 z
      refine mw_iload_n (dT d7_claims 9 rfl) rfl ?_
      refine mw_ldc kc_X7_107 (dT d7_claims 10 rfl) ?_
      obtain ⟨z, T1, T2⟩ := T
      refine mw_icmp_le 25 (dT d7_claims 11 rfl) (by decide) ⟨z, by decide⟩ (fun z => ?_) (fun z => ?_)
      · have T := T1 z
        refine mw_aload_n (dT d7_claims 14 rfl) rfl (by decide) ?_
        refine mw_getR fl_X7_45 (dT d7_claims 15 rfl) ?_
        refine mw_bipush (by decide) (dT d7_claims 16 rfl) ?_
        refine mw_iload_n (dT d7_claims 17 rfl) rfl ?_
        refine mw_imul (dT d7_claims 18 rfl) ?_
        refine mw_iconst (dT d7_claims 19 rfl) ?_
        refine mw_iadd (dT d7_claims 20 rfl) ?_
        obtain ⟨z, T⟩ := T
        refine mw_iaload ro_41 (dT d7_claims 21 rfl) z ?_
        refine mw_istore_n (dT d7_claims 22 rfl) (by decide) ?_
        refine mw_aload_n (dT d7_claims 23 rfl) rfl (by decide) ?_
        refine mw_callVV mv_7_remembers ml_X7_278 (by decide) (dT d7_claims 24 rfl) (as := []) rfl rfl T (fun h3 T => ?_)
        refine mw_aload_n (dT d7_claims 25 rfl) rfl (by decide) ?_
        refine mw_getR fl_X7_45 (dT d7_claims 26 rfl) ?_
        refine mw_bipush (by decide) (dT d7_claims 27 rfl) ?_
        refine mw_iload_n (dT d7_claims 28 rfl) rfl ?_
        refine mw_imul (dT d7_claims 29 rfl) ?_
        refine mw_iconst (dT d7_claims 30 rfl) ?_
        refine mw_iadd (dT d7_claims 31 rfl) ?_
        refine mw_iload_n (dT d7_claims 32 rfl) rfl ?_
        obtain ⟨z, T⟩ := T
        have T := T _ rfl
        refine mw_iastore ro_41 (dT d7_claims 33 rfl) z ?_
        refine mw_iload_n (dT d7_claims 34 rfl) rfl ?_
        exact mw_iret rfl (dT d7_claims 35 rfl) ⟨_, rfl, T⟩
      · have T := T2 z
        refine mw_iconst (dT d7_claims 12 rfl) ?_
        exact mw_iret rfl (dT d7_claims 13 rfl) ⟨_, rfl, T⟩
abbrev A7_laysLevels_15 (K : Int → mH → Prop) (x1 x2 x3 x4 : Int) (h : mH) : Prop := At (mPI K) M7_laysLevels 15 [mR 30 0, mI x1, mI x2, mI x3, mI x4] [] h
theorem s7_laysLevels_15 {K : Int → mH → Prop} {x1 x2 x3 x4 : Int} {h : mH} (T : (mInR x4) ∧ (4 ≤ x4 → ((mInR x3) ∧ (x3 = 0 → (K 0 h)) ∧ (¬ x3 = 0 → ((mInR x2) ∧ (¬ x2 = 0 → (K 0 h)) ∧ (x2 = 0 → (K 1 h)))))) ∧ (¬ 4 ≤ x4 → ((mInR x2) ∧ ((0 ≤ x4 ∧ x4 < 4) ∧ (∀ h1 : mH, h1 = mSet h 45 0 x4 (Int.tmod x2 8) → ((mInR x3) ∧ (x3 = 0 → ((mInR x2) ∧ (A7_laysLevels_15 K x1 (Int.tdiv x2 8) 0 (x4 + 1) h1))) ∧ (¬ x3 = 0 → (OkI M7_factors [mR 30 0] h1 (fun v1 h2 => (mInR x4 ∧ mInR v1) ∧ (v1 ≤ x4 → ((0 ≤ x4 ∧ x4 < 4) ∧ ((mInR (h2 45 0 x4)) ∧ (¬ (h2 45 0 x4) = 0 → ((mInR x2) ∧ (A7_laysLevels_15 K x1 (Int.tdiv x2 8) 0 (x4 + 1) h2))) ∧ ((h2 45 0 x4) = 0 → ((mInR x2) ∧ (A7_laysLevels_15 K x1 (Int.tdiv x2 8) 1 (x4 + 1) h2)))))) ∧ (¬ v1 ≤ x4 → ((0 ≤ x4 ∧ x4 < 4) ∧ ((0 ≤ x4 ∧ x4 < 8) ∧ ((mInR (h2 45 0 x4) ∧ mInR (h2 35 0 x4)) ∧ ((h2 35 0 x4) ≤ (h2 45 0 x4) → ((mInR x2) ∧ (A7_laysLevels_15 K x1 (Int.tdiv x2 8) 0 (x4 + 1) h2))) ∧ (¬ (h2 35 0 x4) ≤ (h2 45 0 x4) → ((mInR x2) ∧ (A7_laysLevels_15 K x1 (Int.tdiv x2 8) 1 (x4 + 1) h2)))))))))))))))) : A7_laysLevels_15 K x1 x2 x3 x4 h := by
  refine mw_iload (dT d7_laysLevels 10 rfl) rfl ?_
  refine mw_iconst (dT d7_laysLevels 11 rfl) ?_
  obtain ⟨z, T1, T2⟩ := T
  refine mw_icmp_ge 92 (dT d7_laysLevels 12 rfl) (by decide) ⟨z, by decide⟩ (fun z => ?_) (fun z => ?_)
  · have T := T1 z
    refine mw_iload_n (dT d7_laysLevels 51 rfl) rfl ?_
    obtain ⟨z, T1, T2⟩ := T
    refine mw_if_eq 104 (dT d7_laysLevels 52 rfl) (by decide) z (fun z => ?_) (fun z => ?_)
    · have T := T1 z
      refine mw_iconst (dT d7_laysLevels 57 rfl) ?_
      exact mw_zret rfl (dT d7_laysLevels 58 rfl) (Or.inl rfl) ⟨_, rfl, T⟩
    · have T := T2 z
      refine mw_iload_n (dT d7_laysLevels 53 rfl) rfl ?_
      obtain ⟨z, T1, T2⟩ := T
      refine mw_if_ne 104 (dT d7_laysLevels 54 rfl) (by decide) z (fun z => ?_) (fun z => ?_)
      · have T := T1 z
        refine mw_iconst (dT d7_laysLevels 57 rfl) ?_
        exact mw_zret rfl (dT d7_laysLevels 58 rfl) (Or.inl rfl) ⟨_, rfl, T⟩
      · have T := T2 z
        refine mw_iconst (dT d7_laysLevels 55 rfl) ?_
        refine mw_goto 105 (dT d7_laysLevels 56 rfl) (by decide) ?_
        exact mw_zret rfl (dT d7_laysLevels 58 rfl) (Or.inr rfl) ⟨_, rfl, T⟩
  · have T := T2 z
    refine mw_aload_n (dT d7_laysLevels 13 rfl) rfl (by decide) ?_
    refine mw_getR fl_X7_57 (dT d7_laysLevels 14 rfl) ?_
    refine mw_iload (dT d7_laysLevels 15 rfl) rfl ?_
    refine mw_iload_n (dT d7_laysLevels 16 rfl) rfl ?_
    refine mw_bipush (by decide) (dT d7_laysLevels 17 rfl) ?_
    obtain ⟨z, T⟩ := T
    refine mw_irem (dT d7_laysLevels 18 rfl) ⟨z, by decide, by decide⟩ ?_
    obtain ⟨z, T⟩ := T
    have T := T _ rfl
    refine mw_iastore ro_45 (dT d7_laysLevels 19 rfl) z ?_
    refine mw_iload_n (dT d7_laysLevels 20 rfl) rfl ?_
    obtain ⟨z, T1, T2⟩ := T
    refine mw_if_eq 79 (dT d7_laysLevels 21 rfl) (by decide) z (fun z => ?_) (fun z => ?_)
    · have T := T1 z
      refine mw_iconst (dT d7_laysLevels 43 rfl) ?_
      refine mw_istore_n (dT d7_laysLevels 44 rfl) (by decide) ?_
      refine mw_iload_n (dT d7_laysLevels 45 rfl) rfl ?_
      refine mw_bipush (by decide) (dT d7_laysLevels 46 rfl) ?_
      obtain ⟨z, T⟩ := T
      refine mw_idiv (dT d7_laysLevels 47 rfl) ⟨z, by decide, by decide⟩ ?_
      refine mw_istore_n (dT d7_laysLevels 48 rfl) (by decide) ?_
      refine mw_iinc (dT d7_laysLevels 49 rfl) rfl (by decide) ?_
      refine mw_goto 15 (dT d7_laysLevels 50 rfl) (by decide) ?_
      exact T
    · have T := T2 z
      refine mw_iload (dT d7_laysLevels 22 rfl) rfl ?_
      refine mw_aload_n (dT d7_laysLevels 23 rfl) rfl (by decide) ?_
      refine mw_callVI mv_7_factors ml_X7_193 (by decide) (dT d7_laysLevels 24 rfl) (as := []) rfl rfl T (fun v1 h2 T => ?_)
      obtain ⟨z, T1, T2⟩ := T
      refine mw_icmp_ge 65 (dT d7_laysLevels 25 rfl) (by decide) z (fun z => ?_) (fun z => ?_)
      · have T := T1 z
        refine mw_aload_n (dT d7_laysLevels 36 rfl) rfl (by decide) ?_
        refine mw_getR fl_X7_57 (dT d7_laysLevels 37 rfl) ?_
        refine mw_iload (dT d7_laysLevels 38 rfl) rfl ?_
        obtain ⟨z, T⟩ := T
        refine mw_iaload ro_45 (dT d7_laysLevels 39 rfl) z ?_
        obtain ⟨z, T1, T2⟩ := T
        refine mw_if_ne 79 (dT d7_laysLevels 40 rfl) (by decide) z (fun z => ?_) (fun z => ?_)
        · have T := T1 z
          refine mw_iconst (dT d7_laysLevels 43 rfl) ?_
          refine mw_istore_n (dT d7_laysLevels 44 rfl) (by decide) ?_
          refine mw_iload_n (dT d7_laysLevels 45 rfl) rfl ?_
          refine mw_bipush (by decide) (dT d7_laysLevels 46 rfl) ?_
          obtain ⟨z, T⟩ := T
          refine mw_idiv (dT d7_laysLevels 47 rfl) ⟨z, by decide, by decide⟩ ?_
          refine mw_istore_n (dT d7_laysLevels 48 rfl) (by decide) ?_
          refine mw_iinc (dT d7_laysLevels 49 rfl) rfl (by decide) ?_
          refine mw_goto 15 (dT d7_laysLevels 50 rfl) (by decide) ?_
          exact T
        · have T := T2 z
          refine mw_iconst (dT d7_laysLevels 41 rfl) ?_
          refine mw_goto 80 (dT d7_laysLevels 42 rfl) (by decide) ?_
          refine mw_istore_n (dT d7_laysLevels 44 rfl) (by decide) ?_
          refine mw_iload_n (dT d7_laysLevels 45 rfl) rfl ?_
          refine mw_bipush (by decide) (dT d7_laysLevels 46 rfl) ?_
          obtain ⟨z, T⟩ := T
          refine mw_idiv (dT d7_laysLevels 47 rfl) ⟨z, by decide, by decide⟩ ?_
          refine mw_istore_n (dT d7_laysLevels 48 rfl) (by decide) ?_
          refine mw_iinc (dT d7_laysLevels 49 rfl) rfl (by decide) ?_
          refine mw_goto 15 (dT d7_laysLevels 50 rfl) (by decide) ?_
          exact T
      · have T := T2 z
        refine mw_aload_n (dT d7_laysLevels 26 rfl) rfl (by decide) ?_
        refine mw_getR fl_X7_57 (dT d7_laysLevels 27 rfl) ?_
        refine mw_iload (dT d7_laysLevels 28 rfl) rfl ?_
        obtain ⟨z, T⟩ := T
        refine mw_iaload ro_45 (dT d7_laysLevels 29 rfl) z ?_
        refine mw_aload_n (dT d7_laysLevels 30 rfl) rfl (by decide) ?_
        refine mw_getR fl_X7_23 (dT d7_laysLevels 31 rfl) ?_
        refine mw_iload (dT d7_laysLevels 32 rfl) rfl ?_
        obtain ⟨z, T⟩ := T
        refine mw_iaload ro_35 (dT d7_laysLevels 33 rfl) z ?_
        obtain ⟨z, T1, T2⟩ := T
        refine mw_icmp_ge 79 (dT d7_laysLevels 34 rfl) (by decide) z (fun z => ?_) (fun z => ?_)
        · have T := T1 z
          refine mw_iconst (dT d7_laysLevels 43 rfl) ?_
          refine mw_istore_n (dT d7_laysLevels 44 rfl) (by decide) ?_
          refine mw_iload_n (dT d7_laysLevels 45 rfl) rfl ?_
          refine mw_bipush (by decide) (dT d7_laysLevels 46 rfl) ?_
          obtain ⟨z, T⟩ := T
          refine mw_idiv (dT d7_laysLevels 47 rfl) ⟨z, by decide, by decide⟩ ?_
          refine mw_istore_n (dT d7_laysLevels 48 rfl) (by decide) ?_
          refine mw_iinc (dT d7_laysLevels 49 rfl) rfl (by decide) ?_
          refine mw_goto 15 (dT d7_laysLevels 50 rfl) (by decide) ?_
          exact T
        · have T := T2 z
          refine mw_goto 75 (dT d7_laysLevels 35 rfl) (by decide) ?_
          refine mw_iconst (dT d7_laysLevels 41 rfl) ?_
          refine mw_goto 80 (dT d7_laysLevels 42 rfl) (by decide) ?_
          refine mw_istore_n (dT d7_laysLevels 44 rfl) (by decide) ?_
          refine mw_iload_n (dT d7_laysLevels 45 rfl) rfl ?_
          refine mw_bipush (by decide) (dT d7_laysLevels 46 rfl) ?_
          obtain ⟨z, T⟩ := T
          refine mw_idiv (dT d7_laysLevels 47 rfl) ⟨z, by decide, by decide⟩ ?_
          refine mw_istore_n (dT d7_laysLevels 48 rfl) (by decide) ?_
          refine mw_iinc (dT d7_laysLevels 49 rfl) rfl (by decide) ?_
          refine mw_goto 15 (dT d7_laysLevels 50 rfl) (by decide) ?_
          exact T
theorem s7_laysLevels {K : Int → mH → Prop} {x1 : Int} {h : mH} (T : (mInR x1) ∧ (x1 < 0 → (A7_laysLevels_15 K x1 x1 0 0 h)) ∧ (¬ x1 < 0 → (A7_laysLevels_15 K x1 x1 1 0 h))) : OkI M7_laysLevels [mR 30 0, mI x1] h K := by
  refine Ok.of rfl (n := 3) rfl ?_
  show At (mPI K) M7_laysLevels 0 [mR 30 0, mI x1, mU, mU, mU] [] h
  refine mw_iload_n (dT d7_laysLevels 0 rfl) rfl ?_
  refine mw_istore_n (dT d7_laysLevels 1 rfl) (by decide) ?_
  refine mw_iload_n (dT d7_laysLevels 2 rfl) rfl ?_
  obtain ⟨z, T1, T2⟩ := T
  refine mw_if_lt 10 (dT d7_laysLevels 3 rfl) (by decide) z (fun z => ?_) (fun z => ?_)
  · have T := T1 z
    refine mw_iconst (dT d7_laysLevels 6 rfl) ?_
    refine mw_istore_n (dT d7_laysLevels 7 rfl) (by decide) ?_
    refine mw_iconst (dT d7_laysLevels 8 rfl) ?_
    refine mw_istore (dT d7_laysLevels 9 rfl) (by decide) ?_
    exact T
  · have T := T2 z
    refine mw_iconst (dT d7_laysLevels 4 rfl) ?_
    refine mw_goto 11 (dT d7_laysLevels 5 rfl) (by decide) ?_
    refine mw_istore_n (dT d7_laysLevels 7 rfl) (by decide) ?_
    refine mw_iconst (dT d7_laysLevels 8 rfl) ?_
    refine mw_istore (dT d7_laysLevels 9 rfl) (by decide) ?_
    exact T
abbrev A7_risk_106 (K : Int → mH → Prop) (x1 x2 x3 x4 x5 x6 : Int) (h : mH) : Prop := At (mPI K) M7_risk 106 [mR 30 0, mI x1, mI x2, mI x3, mI x4, mI x5, mI x6] [] h
theorem s7_risk_106 {K : Int → mH → Prop} {x1 x2 x3 x4 x5 x6 : Int} {h : mH} (T : (mInR x6) ∧ (4 ≤ x6 → (∀ h1 : mH, h1 = mSet h 41 0 310 ((h 41 0 310) + 1) → (OkI M7_many [mR 30 0] h1 (fun v1 h2 => K (v1 - 1) h2)))) ∧ (¬ 4 ≤ x6 → ((0 ≤ x6 ∧ x6 < 4) ∧ ((0 ≤ ((x5 + 3) + x6) ∧ ((x5 + 3) + x6) < 314) ∧ (∀ h3 : mH, h3 = mSet h 41 0 ((x5 + 3) + x6) (h 45 0 x6) → (A7_risk_106 K x1 x2 x3 x4 x5 (x6 + 1) h3)))))) : A7_risk_106 K x1 x2 x3 x4 x5 x6 h := by
  refine mw_iload (dT d7_risk 62 rfl) rfl ?_
  refine mw_iconst (dT d7_risk 63 rfl) ?_
  obtain ⟨z, T1, T2⟩ := T
  refine mw_icmp_ge 137 (dT d7_risk 64 rfl) (by decide) ⟨z, by decide⟩ (fun z => ?_) (fun z => ?_)
  · have T := T1 z
    refine mw_aload_n (dT d7_risk 79 rfl) rfl (by decide) ?_
    refine mw_getR fl_X7_45 (dT d7_risk 80 rfl) ?_
    refine mw_sipush (by decide) (dT d7_risk 81 rfl) ?_
    refine mw_dup2 (dT d7_risk 82 rfl) (fun _ z => by cases z) (fun _ z => by cases z) ?_
    refine mw_iaload ro_41 (dT d7_risk 83 rfl) (by decide) ?_
    refine mw_iconst (dT d7_risk 84 rfl) ?_
    refine mw_iadd (dT d7_risk 85 rfl) ?_
    have T := T _ rfl
    refine mw_iastore ro_41 (dT d7_risk 86 rfl) (by decide) ?_
    refine mw_aload_n (dT d7_risk 87 rfl) rfl (by decide) ?_
    refine mw_callVI mv_7_many ml_X7_200 (by decide) (dT d7_risk 88 rfl) (as := []) rfl rfl T (fun v1 h2 T => ?_)
    refine mw_iconst (dT d7_risk 89 rfl) ?_
    refine mw_isub (dT d7_risk 90 rfl) ?_
    exact mw_iret rfl (dT d7_risk 91 rfl) ⟨_, rfl, T⟩
  · have T := T2 z
    refine mw_aload_n (dT d7_risk 65 rfl) rfl (by decide) ?_
    refine mw_getR fl_X7_45 (dT d7_risk 66 rfl) ?_
    refine mw_iload (dT d7_risk 67 rfl) rfl ?_
    refine mw_iconst (dT d7_risk 68 rfl) ?_
    refine mw_iadd (dT d7_risk 69 rfl) ?_
    refine mw_iload (dT d7_risk 70 rfl) rfl ?_
    refine mw_iadd (dT d7_risk 71 rfl) ?_
    refine mw_aload_n (dT d7_risk 72 rfl) rfl (by decide) ?_
    refine mw_getR fl_X7_57 (dT d7_risk 73 rfl) ?_
    refine mw_iload (dT d7_risk 74 rfl) rfl ?_
    obtain ⟨z, T⟩ := T
    refine mw_iaload ro_45 (dT d7_risk 75 rfl) z ?_
    obtain ⟨z, T⟩ := T
    have T := T _ rfl
    refine mw_iastore ro_41 (dT d7_risk 76 rfl) z ?_
    refine mw_iinc (dT d7_risk 77 rfl) rfl (by decide) ?_
    refine mw_goto 106 (dT d7_risk 78 rfl) (by decide) ?_
    exact T
theorem s7_risk {K : Int → mH → Prop} {x1 : Int} {x2 : Int} {x3 : Int} {x4 : Int} {h : mH} (T : ∀ h1 : mH, h1 = mSet h 30 0 0 0 → ((mInR x1) ∧ (x1 < 1 → (K ((-1)) h1)) ∧ (¬ x1 < 1 → ((mInR x1) ∧ (99 < x1 → (K ((-1)) h1)) ∧ (¬ 99 < x1 → ((mInR x2) ∧ (x2 < 0 → (K ((-1)) h1)) ∧ (¬ x2 < 0 → ((mInR x2) ∧ (99999 < x2 → (K ((-1)) h1)) ∧ (¬ 99999 < x2 → ((mInR x3) ∧ (x3 < 1 → (K ((-1)) h1)) ∧ (¬ x3 < 1 → ((mInR x3) ∧ (99999 < x3 → (K ((-1)) h1)) ∧ (¬ 99999 < x3 → (OkI M7_laysLevels [mR 30 0, mI x4] h1 (fun v1 h2 => (mInR v1) ∧ (¬ v1 = 0 → (OkI M7_many [mR 30 0] h2 (fun v2 h3 => (mInR v2) ∧ (¬ v2 = 40 → (OkV M7_remembers [mR 30 0] h3 (fun h4 => OkI M7_many [mR 30 0] h4 (fun v3 h5 => (0 ≤ ((7 * v3) + 0) ∧ ((7 * v3) + 0) < 314) ∧ (∀ h6 : mH, h6 = mSet h5 41 0 ((7 * v3) + 0) x1 → ((0 ≤ ((7 * v3) + 1) ∧ ((7 * v3) + 1) < 314) ∧ (∀ h7 : mH, h7 = mSet h6 41 0 ((7 * v3) + 1) x2 → ((0 ≤ ((7 * v3) + 2) ∧ ((7 * v3) + 2) < 314) ∧ (∀ h8 : mH, h8 = mSet h7 41 0 ((7 * v3) + 2) x3 → (A7_risk_106 K x1 x2 x3 x4 (7 * v3) 0 h8)))))))))) ∧ (v2 = 40 → (K ((-2)) h3))))) ∧ (v1 = 0 → (K ((-1)) h2))))))))))))))))) : OkI M7_risk [mR 30 0, mI x1, mI x2, mI x3, mI x4] h K := by
  refine Ok.of rfl (n := 2) rfl ?_
  show At (mPI K) M7_risk 0 [mR 30 0, mI x1, mI x2, mI x3, mI x4, mU, mU] [] h
  refine mw_aload_n (dT d7_risk 0 rfl) rfl (by decide) ?_
  refine mw_iconst (dT d7_risk 1 rfl) ?_
  have T := T _ rfl
  refine mw_putI fp_X7_69 (dT d7_risk 2 rfl) ?_
  refine mw_iload_n (dT d7_risk 3 rfl) rfl ?_
  refine mw_iconst (dT d7_risk 4 rfl) ?_
  obtain ⟨z, T1, T2⟩ := T
  refine mw_icmp_lt 46 (dT d7_risk 5 rfl) (by decide) ⟨z, by decide⟩ (fun z => ?_) (fun z => ?_)
  · have T := T1 z
    refine mw_iconst (dT d7_risk 24 rfl) ?_
    exact mw_iret rfl (dT d7_risk 25 rfl) ⟨_, rfl, T⟩
  · have T := T2 z
    refine mw_iload_n (dT d7_risk 6 rfl) rfl ?_
    refine mw_bipush (by decide) (dT d7_risk 7 rfl) ?_
    obtain ⟨z, T1, T2⟩ := T
    refine mw_icmp_gt 46 (dT d7_risk 8 rfl) (by decide) ⟨z, by decide⟩ (fun z => ?_) (fun z => ?_)
    · have T := T1 z
      refine mw_iconst (dT d7_risk 24 rfl) ?_
      exact mw_iret rfl (dT d7_risk 25 rfl) ⟨_, rfl, T⟩
    · have T := T2 z
      refine mw_iload_n (dT d7_risk 9 rfl) rfl ?_
      obtain ⟨z, T1, T2⟩ := T
      refine mw_if_lt 46 (dT d7_risk 10 rfl) (by decide) z (fun z => ?_) (fun z => ?_)
      · have T := T1 z
        refine mw_iconst (dT d7_risk 24 rfl) ?_
        exact mw_iret rfl (dT d7_risk 25 rfl) ⟨_, rfl, T⟩
      · have T := T2 z
        refine mw_iload_n (dT d7_risk 11 rfl) rfl ?_
        refine mw_ldc kc_X7_107 (dT d7_risk 12 rfl) ?_
        obtain ⟨z, T1, T2⟩ := T
        refine mw_icmp_gt 46 (dT d7_risk 13 rfl) (by decide) ⟨z, by decide⟩ (fun z => ?_) (fun z => ?_)
        · have T := T1 z
          refine mw_iconst (dT d7_risk 24 rfl) ?_
          exact mw_iret rfl (dT d7_risk 25 rfl) ⟨_, rfl, T⟩
        · have T := T2 z
          refine mw_iload_n (dT d7_risk 14 rfl) rfl ?_
          refine mw_iconst (dT d7_risk 15 rfl) ?_
          obtain ⟨z, T1, T2⟩ := T
          refine mw_icmp_lt 46 (dT d7_risk 16 rfl) (by decide) ⟨z, by decide⟩ (fun z => ?_) (fun z => ?_)
          · have T := T1 z
            refine mw_iconst (dT d7_risk 24 rfl) ?_
            exact mw_iret rfl (dT d7_risk 25 rfl) ⟨_, rfl, T⟩
          · have T := T2 z
            refine mw_iload_n (dT d7_risk 17 rfl) rfl ?_
            refine mw_ldc kc_X7_107 (dT d7_risk 18 rfl) ?_
            obtain ⟨z, T1, T2⟩ := T
            refine mw_icmp_gt 46 (dT d7_risk 19 rfl) (by decide) ⟨z, by decide⟩ (fun z => ?_) (fun z => ?_)
            · have T := T1 z
              refine mw_iconst (dT d7_risk 24 rfl) ?_
              exact mw_iret rfl (dT d7_risk 25 rfl) ⟨_, rfl, T⟩
            · have T := T2 z
              refine mw_aload_n (dT d7_risk 20 rfl) rfl (by decide) ?_
              refine mw_iload (dT d7_risk 21 rfl) rfl ?_
              refine mw_callVI mv_7_laysLevels ml_X7_298 (by decide) (dT d7_risk 22 rfl) (as := [mI _]) rfl rfl T (fun v1 h2 T => ?_)
              obtain ⟨z, T1, T2⟩ := T
              refine mw_if_ne 48 (dT d7_risk 23 rfl) (by decide) z (fun z => ?_) (fun z => ?_)
              · have T := T1 z
                refine mw_aload_n (dT d7_risk 26 rfl) rfl (by decide) ?_
                refine mw_callVI mv_7_many ml_X7_200 (by decide) (dT d7_risk 27 rfl) (as := []) rfl rfl T (fun v2 h3 T => ?_)
                refine mw_bipush (by decide) (dT d7_risk 28 rfl) ?_
                obtain ⟨z, T1, T2⟩ := T
                refine mw_icmp_ne 60 (dT d7_risk 29 rfl) (by decide) ⟨z, by decide⟩ (fun z => ?_) (fun z => ?_)
                · have T := T1 z
                  refine mw_aload_n (dT d7_risk 32 rfl) rfl (by decide) ?_
                  refine mw_callVV mv_7_remembers ml_X7_278 (by decide) (dT d7_risk 33 rfl) (as := []) rfl rfl T (fun h4 T => ?_)
                  refine mw_bipush (by decide) (dT d7_risk 34 rfl) ?_
                  refine mw_aload_n (dT d7_risk 35 rfl) rfl (by decide) ?_
                  refine mw_callVI mv_7_many ml_X7_200 (by decide) (dT d7_risk 36 rfl) (as := []) rfl rfl T (fun v3 h5 T => ?_)
                  refine mw_imul (dT d7_risk 37 rfl) ?_
                  refine mw_istore (dT d7_risk 38 rfl) (by decide) ?_
                  refine mw_aload_n (dT d7_risk 39 rfl) rfl (by decide) ?_
                  refine mw_getR fl_X7_45 (dT d7_risk 40 rfl) ?_
                  refine mw_iload (dT d7_risk 41 rfl) rfl ?_
                  refine mw_iconst (dT d7_risk 42 rfl) ?_
                  refine mw_iadd (dT d7_risk 43 rfl) ?_
                  refine mw_iload_n (dT d7_risk 44 rfl) rfl ?_
                  obtain ⟨z, T⟩ := T
                  have T := T _ rfl
                  refine mw_iastore ro_41 (dT d7_risk 45 rfl) z ?_
                  refine mw_aload_n (dT d7_risk 46 rfl) rfl (by decide) ?_
                  refine mw_getR fl_X7_45 (dT d7_risk 47 rfl) ?_
                  refine mw_iload (dT d7_risk 48 rfl) rfl ?_
                  refine mw_iconst (dT d7_risk 49 rfl) ?_
                  refine mw_iadd (dT d7_risk 50 rfl) ?_
                  refine mw_iload_n (dT d7_risk 51 rfl) rfl ?_
                  obtain ⟨z, T⟩ := T
                  have T := T _ rfl
                  refine mw_iastore ro_41 (dT d7_risk 52 rfl) z ?_
                  refine mw_aload_n (dT d7_risk 53 rfl) rfl (by decide) ?_
                  refine mw_getR fl_X7_45 (dT d7_risk 54 rfl) ?_
                  refine mw_iload (dT d7_risk 55 rfl) rfl ?_
                  refine mw_iconst (dT d7_risk 56 rfl) ?_
                  refine mw_iadd (dT d7_risk 57 rfl) ?_
                  refine mw_iload_n (dT d7_risk 58 rfl) rfl ?_
                  obtain ⟨z, T⟩ := T
                  have T := T _ rfl
                  refine mw_iastore ro_41 (dT d7_risk 59 rfl) z ?_
                  refine mw_iconst (dT d7_risk 60 rfl) ?_
                  refine mw_istore (dT d7_risk 61 rfl) (by decide) ?_
                  exact T
                · have T := T2 z
                  refine mw_bipush (by decide) (dT d7_risk 30 rfl) ?_
                  exact mw_iret rfl (dT d7_risk 31 rfl) ⟨_, rfl, T⟩
              · have T := T2 z
                refine mw_iconst (dT d7_risk 24 rfl) ?_
                exact mw_iret rfl (dT d7_risk 25 rfl) ⟨_, rfl, T⟩
abbrev A7_goes_17 (K : mH → Prop) (x1 x2 : Int) (h : mH) : Prop := At (mPV K) M7_goes 17 [mR 30 0, mI x1, mI x2] [] h
abbrev A7_goes_51 (K : mH → Prop) (x1 x2 : Int) (h : mH) : Prop := At (mPV K) M7_goes 51 [mR 30 0, mI x1, mI x2] [] h
theorem s7_goes_17 {K : mH → Prop} {x1 x2 : Int} {h : mH} (T : OkI M7_many [mR 30 0] h (fun v1 h1 => (mInR x2 ∧ mInR (7 * v1)) ∧ ((7 * v1) ≤ x2 → (A7_goes_51 K x1 0 h1)) ∧ (¬ (7 * v1) ≤ x2 → ((0 ≤ (x2 + 7) ∧ (x2 + 7) < 314) ∧ ((0 ≤ x2 ∧ x2 < 314) ∧ (∀ h2 : mH, h2 = mSet h1 41 0 x2 (h1 41 0 (x2 + 7)) → (A7_goes_17 K x1 (x2 + 1) h2))))))) : A7_goes_17 K x1 x2 h := by
  refine mw_iload_n (dT d7_goes 12 rfl) rfl ?_
  refine mw_bipush (by decide) (dT d7_goes 13 rfl) ?_
  refine mw_aload_n (dT d7_goes 14 rfl) rfl (by decide) ?_
  refine mw_callVI mv_7_many ml_X7_200 (by decide) (dT d7_goes 15 rfl) (as := []) rfl rfl T (fun v1 h1 T => ?_)
  refine mw_imul (dT d7_goes 16 rfl) ?_
  obtain ⟨z, T1, T2⟩ := T
  refine mw_icmp_ge 49 (dT d7_goes 17 rfl) (by decide) z (fun z => ?_) (fun z => ?_)
  · have T := T1 z
    refine mw_iconst (dT d7_goes 30 rfl) ?_
    refine mw_istore_n (dT d7_goes 31 rfl) (by decide) ?_
    exact T
  · have T := T2 z
    refine mw_aload_n (dT d7_goes 18 rfl) rfl (by decide) ?_
    refine mw_getR fl_X7_45 (dT d7_goes 19 rfl) ?_
    refine mw_iload_n (dT d7_goes 20 rfl) rfl ?_
    refine mw_aload_n (dT d7_goes 21 rfl) rfl (by decide) ?_
    refine mw_getR fl_X7_45 (dT d7_goes 22 rfl) ?_
    refine mw_iload_n (dT d7_goes 23 rfl) rfl ?_
    refine mw_bipush (by decide) (dT d7_goes 24 rfl) ?_
    refine mw_iadd (dT d7_goes 25 rfl) ?_
    obtain ⟨z, T⟩ := T
    refine mw_iaload ro_41 (dT d7_goes 26 rfl) z ?_
    obtain ⟨z, T⟩ := T
    have T := T _ rfl
    refine mw_iastore ro_41 (dT d7_goes 27 rfl) z ?_
    refine mw_iinc (dT d7_goes 28 rfl) rfl (by decide) ?_
    refine mw_goto 17 (dT d7_goes 29 rfl) (by decide) ?_
    exact T
theorem s7_goes_51 {K : mH → Prop} {x1 x2 : Int} {h : mH} (T : (mInR x2) ∧ (7 ≤ x2 → (K h)) ∧ (¬ 7 ≤ x2 → (OkI M7_many [mR 30 0] h (fun v1 h1 => (0 ≤ ((7 * v1) + x2) ∧ ((7 * v1) + x2) < 314) ∧ (∀ h2 : mH, h2 = mSet h1 41 0 ((7 * v1) + x2) 0 → (A7_goes_51 K x1 (x2 + 1) h2)))))) : A7_goes_51 K x1 x2 h := by
  refine mw_iload_n (dT d7_goes 32 rfl) rfl ?_
  refine mw_bipush (by decide) (dT d7_goes 33 rfl) ?_
  obtain ⟨z, T1, T2⟩ := T
  refine mw_icmp_ge 78 (dT d7_goes 34 rfl) (by decide) ⟨z, by decide⟩ (fun z => ?_) (fun z => ?_)
  · have T := T1 z
    exact mw_vret rfl (dT d7_goes 47 rfl) ⟨rfl, T⟩
  · have T := T2 z
    refine mw_aload_n (dT d7_goes 35 rfl) rfl (by decide) ?_
    refine mw_getR fl_X7_45 (dT d7_goes 36 rfl) ?_
    refine mw_bipush (by decide) (dT d7_goes 37 rfl) ?_
    refine mw_aload_n (dT d7_goes 38 rfl) rfl (by decide) ?_
    refine mw_callVI mv_7_many ml_X7_200 (by decide) (dT d7_goes 39 rfl) (as := []) rfl rfl T (fun v1 h1 T => ?_)
    refine mw_imul (dT d7_goes 40 rfl) ?_
    refine mw_iload_n (dT d7_goes 41 rfl) rfl ?_
    refine mw_iadd (dT d7_goes 42 rfl) ?_
    refine mw_iconst (dT d7_goes 43 rfl) ?_
    obtain ⟨z, T⟩ := T
    have T := T _ rfl
    refine mw_iastore ro_41 (dT d7_goes 44 rfl) z ?_
    refine mw_iinc (dT d7_goes 45 rfl) rfl (by decide) ?_
    refine mw_goto 51 (dT d7_goes 46 rfl) (by decide) ?_
    exact T
theorem s7_goes {K : mH → Prop} {x1 : Int} {h : mH} (T : ∀ h1 : mH, h1 = mSet h 41 0 310 ((h 41 0 310) - 1) → (A7_goes_17 K x1 (7 * x1) h1)) : OkV M7_goes [mR 30 0, mI x1] h K := by
  refine Ok.of rfl (n := 1) rfl ?_
  show At (mPV K) M7_goes 0 [mR 30 0, mI x1, mU] [] h
  refine mw_aload_n (dT d7_goes 0 rfl) rfl (by decide) ?_
  refine mw_getR fl_X7_45 (dT d7_goes 1 rfl) ?_
  refine mw_sipush (by decide) (dT d7_goes 2 rfl) ?_
  refine mw_dup2 (dT d7_goes 3 rfl) (fun _ z => by cases z) (fun _ z => by cases z) ?_
  refine mw_iaload ro_41 (dT d7_goes 4 rfl) (by decide) ?_
  refine mw_iconst (dT d7_goes 5 rfl) ?_
  refine mw_isub (dT d7_goes 6 rfl) ?_
  have T := T _ rfl
  refine mw_iastore ro_41 (dT d7_goes 7 rfl) (by decide) ?_
  refine mw_bipush (by decide) (dT d7_goes 8 rfl) ?_
  refine mw_iload_n (dT d7_goes 9 rfl) rfl ?_
  refine mw_imul (dT d7_goes 10 rfl) ?_
  refine mw_istore_n (dT d7_goes 11 rfl) (by decide) ?_
  exact T
theorem s7_drop {K : Int → mH → Prop} {x1 : Int} {h : mH} (T : ∀ h1 : mH, h1 = mSet h 30 0 0 0 → (OkI M7_isRisk [mR 30 0, mI x1] h1 (fun v1 h2 => (mInR v1) ∧ (¬ v1 = 0 → (OkV M7_remembers [mR 30 0] h2 (fun h3 => OkV M7_goes [mR 30 0, mI x1] h3 (fun h4 => OkI M7_many [mR 30 0] h4 (fun v2 h5 => K v2 h5))))) ∧ (v1 = 0 → (K ((-1)) h2))))) : OkI M7_drop [mR 30 0, mI x1] h K := by
  refine Ok.of rfl (n := 0) rfl ?_
  show At (mPI K) M7_drop 0 [mR 30 0, mI x1] [] h
  refine mw_aload_n (dT d7_drop 0 rfl) rfl (by decide) ?_
  refine mw_iconst (dT d7_drop 1 rfl) ?_
  have T := T _ rfl
  refine mw_putI fp_X7_69 (dT d7_drop 2 rfl) ?_
  refine mw_aload_n (dT d7_drop 3 rfl) rfl (by decide) ?_
  refine mw_iload_n (dT d7_drop 4 rfl) rfl ?_
  refine mw_callVI mv_7_isRisk ml_X7_295 (by decide) (dT d7_drop 5 rfl) (as := [mI _]) rfl rfl T (fun v1 h2 T => ?_)
  obtain ⟨z, T1, T2⟩ := T
  refine mw_if_ne 15 (dT d7_drop 6 rfl) (by decide) z (fun z => ?_) (fun z => ?_)
  · have T := T1 z
    refine mw_aload_n (dT d7_drop 9 rfl) rfl (by decide) ?_
    refine mw_callVV mv_7_remembers ml_X7_278 (by decide) (dT d7_drop 10 rfl) (as := []) rfl rfl T (fun h3 T => ?_)
    refine mw_aload_n (dT d7_drop 11 rfl) rfl (by decide) ?_
    refine mw_iload_n (dT d7_drop 12 rfl) rfl ?_
    refine mw_callVV mv_7_goes ml_X7_301 (by decide) (dT d7_drop 13 rfl) (as := [mI _]) rfl rfl T (fun h4 T => ?_)
    refine mw_aload_n (dT d7_drop 14 rfl) rfl (by decide) ?_
    refine mw_callVI mv_7_many ml_X7_200 (by decide) (dT d7_drop 15 rfl) (as := []) rfl rfl T (fun v2 h5 T => ?_)
    exact mw_iret rfl (dT d7_drop 16 rfl) ⟨_, rfl, T⟩
  · have T := T2 z
    refine mw_iconst (dT d7_drop 7 rfl) ?_
    exact mw_iret rfl (dT d7_drop 8 rfl) ⟨_, rfl, T⟩
theorem s7_joins {K : mH → Prop} {x1 : Int} {x2 : Int} {h : mH} (T : OkI M7_relativityOf [mR 30 0, mI x1, mI x2] h (fun v1 h1 => (0 ≤ (304 + x1) ∧ (304 + x1) < 314) ∧ ((0 ≤ (304 + x1) ∧ (304 + x1) < 314) ∧ (∀ h2 : mH, h2 = mSet h1 41 0 (304 + x1) (mXor (h1 41 0 (304 + x1)) (mShl 1 x2)) → (OkI M7_isJoined [mR 30 0, mI x1, mI x2] h2 (fun v2 h3 => (mInR v2) ∧ (v2 = 0 → (K h3)) ∧ (¬ v2 = 0 → (OkV M7_relates [mR 30 0, mI x1, mI x2, mI v1] h3 (fun h4 => K h4))))))))) : OkV M7_joins [mR 30 0, mI x1, mI x2] h K := by
  refine Ok.of rfl (n := 1) rfl ?_
  show At (mPV K) M7_joins 0 [mR 30 0, mI x1, mI x2, mU] [] h
  refine mw_aload_n (dT d7_joins 0 rfl) rfl (by decide) ?_
  refine mw_iload_n (dT d7_joins 1 rfl) rfl ?_
  refine mw_iload_n (dT d7_joins 2 rfl) rfl ?_
  refine mw_callVI mv_7_relativityOf ml_X7_222 (by decide) (dT d7_joins 3 rfl) (as := [mI _, mI _]) rfl rfl T (fun v1 h1 T => ?_)
  refine mw_istore_n (dT d7_joins 4 rfl) (by decide) ?_
  refine mw_aload_n (dT d7_joins 5 rfl) rfl (by decide) ?_
  refine mw_getR fl_X7_45 (dT d7_joins 6 rfl) ?_
  refine mw_sipush (by decide) (dT d7_joins 7 rfl) ?_
  refine mw_iload_n (dT d7_joins 8 rfl) rfl ?_
  refine mw_iadd (dT d7_joins 9 rfl) ?_
  refine mw_dup2 (dT d7_joins 10 rfl) (fun _ z => by cases z) (fun _ z => by cases z) ?_
  obtain ⟨z, T⟩ := T
  refine mw_iaload ro_41 (dT d7_joins 11 rfl) z ?_
  refine mw_iconst (dT d7_joins 12 rfl) ?_
  refine mw_iload_n (dT d7_joins 13 rfl) rfl ?_
  refine mw_ishl (dT d7_joins 14 rfl) ?_
  refine mw_ixor (dT d7_joins 15 rfl) ?_
  obtain ⟨z, T⟩ := T
  have T := T _ rfl
  refine mw_iastore ro_41 (dT d7_joins 16 rfl) z ?_
  refine mw_aload_n (dT d7_joins 17 rfl) rfl (by decide) ?_
  refine mw_iload_n (dT d7_joins 18 rfl) rfl ?_
  refine mw_iload_n (dT d7_joins 19 rfl) rfl ?_
  refine mw_callVI mv_7_isJoined ml_X7_206 (by decide) (dT d7_joins 20 rfl) (as := [mI _, mI _]) rfl rfl T (fun v2 h3 T => ?_)
  obtain ⟨z, T1, T2⟩ := T
  refine mw_if_eq 39 (dT d7_joins 21 rfl) (by decide) z (fun z => ?_) (fun z => ?_)
  · have T := T1 z
    exact mw_vret rfl (dT d7_joins 27 rfl) ⟨rfl, T⟩
  · have T := T2 z
    refine mw_aload_n (dT d7_joins 22 rfl) rfl (by decide) ?_
    refine mw_iload_n (dT d7_joins 23 rfl) rfl ?_
    refine mw_iload_n (dT d7_joins 24 rfl) rfl ?_
    refine mw_iload_n (dT d7_joins 25 rfl) rfl ?_
    refine mw_callVV mv_7_relates ml_X7_263 (by decide) (dT d7_joins 26 rfl) (as := [mI _, mI _, mI _]) rfl rfl T (fun h4 T => ?_)
    exact mw_vret rfl (dT d7_joins 27 rfl) ⟨rfl, T⟩
theorem s7_join {K : Int → mH → Prop} {x1 : Int} {x2 : Int} {h : mH} (T : ∀ h1 : mH, h1 = mSet h 30 0 0 0 → (OkI M7_isLevel [mR 30 0, mI x1, mI x2] h1 (fun v1 h2 => (mInR v1) ∧ (v1 = 0 → (K ((-1)) h2)) ∧ (¬ v1 = 0 → ((0 ≤ x1 ∧ x1 < 8) ∧ ((mInR x2 ∧ mInR ((h2 35 0 x1) - 1)) ∧ (¬ x2 = ((h2 35 0 x1) - 1) → (OkV M7_remembers [mR 30 0] h2 (fun h3 => OkV M7_joins [mR 30 0, mI x1, mI x2] h3 (fun h4 => OkI M7_isJoined [mR 30 0, mI x1, mI x2] h4 (fun v2 h5 => (mInR v2) ∧ (v2 = 0 → (K 0 h5)) ∧ (¬ v2 = 0 → (K 1 h5))))))) ∧ (x2 = ((h2 35 0 x1) - 1) → (K ((-1)) h2)))))))) : OkI M7_join [mR 30 0, mI x1, mI x2] h K := by
  refine Ok.of rfl (n := 0) rfl ?_
  show At (mPI K) M7_join 0 [mR 30 0, mI x1, mI x2] [] h
  refine mw_aload_n (dT d7_join 0 rfl) rfl (by decide) ?_
  refine mw_iconst (dT d7_join 1 rfl) ?_
  have T := T _ rfl
  refine mw_putI fp_X7_69 (dT d7_join 2 rfl) ?_
  refine mw_aload_n (dT d7_join 3 rfl) rfl (by decide) ?_
  refine mw_iload_n (dT d7_join 4 rfl) rfl ?_
  refine mw_iload_n (dT d7_join 5 rfl) rfl ?_
  refine mw_callVI mv_7_isLevel ml_X7_292 (by decide) (dT d7_join 6 rfl) (as := [mI _, mI _]) rfl rfl T (fun v1 h2 T => ?_)
  obtain ⟨z, T1, T2⟩ := T
  refine mw_if_eq 26 (dT d7_join 7 rfl) (by decide) z (fun z => ?_) (fun z => ?_)
  · have T := T1 z
    refine mw_iconst (dT d7_join 16 rfl) ?_
    exact mw_iret rfl (dT d7_join 17 rfl) ⟨_, rfl, T⟩
  · have T := T2 z
    refine mw_iload_n (dT d7_join 8 rfl) rfl ?_
    refine mw_aload_n (dT d7_join 9 rfl) rfl (by decide) ?_
    refine mw_getR fl_X7_23 (dT d7_join 10 rfl) ?_
    refine mw_iload_n (dT d7_join 11 rfl) rfl ?_
    obtain ⟨z, T⟩ := T
    refine mw_iaload ro_35 (dT d7_join 12 rfl) z ?_
    refine mw_iconst (dT d7_join 13 rfl) ?_
    refine mw_isub (dT d7_join 14 rfl) ?_
    obtain ⟨z, T1, T2⟩ := T
    refine mw_icmp_ne 28 (dT d7_join 15 rfl) (by decide) z (fun z => ?_) (fun z => ?_)
    · have T := T1 z
      refine mw_aload_n (dT d7_join 18 rfl) rfl (by decide) ?_
      refine mw_callVV mv_7_remembers ml_X7_278 (by decide) (dT d7_join 19 rfl) (as := []) rfl rfl T (fun h3 T => ?_)
      refine mw_aload_n (dT d7_join 20 rfl) rfl (by decide) ?_
      refine mw_iload_n (dT d7_join 21 rfl) rfl ?_
      refine mw_iload_n (dT d7_join 22 rfl) rfl ?_
      refine mw_callVV mv_7_joins ml_X7_304 (by decide) (dT d7_join 23 rfl) (as := [mI _, mI _]) rfl rfl T (fun h4 T => ?_)
      refine mw_aload_n (dT d7_join 24 rfl) rfl (by decide) ?_
      refine mw_iload_n (dT d7_join 25 rfl) rfl ?_
      refine mw_iload_n (dT d7_join 26 rfl) rfl ?_
      refine mw_callVI mv_7_isJoined ml_X7_206 (by decide) (dT d7_join 27 rfl) (as := [mI _, mI _]) rfl rfl T (fun v2 h5 T => ?_)
      obtain ⟨z, T1, T2⟩ := T
      refine mw_if_eq 51 (dT d7_join 28 rfl) (by decide) z (fun z => ?_) (fun z => ?_)
      · have T := T1 z
        refine mw_iconst (dT d7_join 31 rfl) ?_
        exact mw_iret rfl (dT d7_join 32 rfl) ⟨_, rfl, T⟩
      · have T := T2 z
        refine mw_iconst (dT d7_join 29 rfl) ?_
        refine mw_goto 52 (dT d7_join 30 rfl) (by decide) ?_
        exact mw_iret rfl (dT d7_join 32 rfl) ⟨_, rfl, T⟩
    · have T := T2 z
      refine mw_iconst (dT d7_join 16 rfl) ?_
      exact mw_iret rfl (dT d7_join 17 rfl) ⟨_, rfl, T⟩
theorem s7_cap {K : Int → mH → Prop} {x1 : Int} {h : mH} (T : ∀ h1 : mH, h1 = mSet h 30 0 0 0 → ((mInR x1) ∧ (x1 < 0 → (K ((-1)) h1)) ∧ (¬ x1 < 0 → ((mInR x1) ∧ (x1 ≤ 999 → (OkV M7_remembers [mR 30 0] h1 (fun h2 => ∀ h3 : mH, h3 = mSet h2 41 0 309 x1 → (K (h1 41 0 309) h3)))) ∧ (¬ x1 ≤ 999 → (K ((-1)) h1)))))) : OkI M7_cap [mR 30 0, mI x1] h K := by
  refine Ok.of rfl (n := 1) rfl ?_
  show At (mPI K) M7_cap 0 [mR 30 0, mI x1, mU] [] h
  refine mw_aload_n (dT d7_cap 0 rfl) rfl (by decide) ?_
  refine mw_iconst (dT d7_cap 1 rfl) ?_
  have T := T _ rfl
  refine mw_putI fp_X7_69 (dT d7_cap 2 rfl) ?_
  refine mw_iload_n (dT d7_cap 3 rfl) rfl ?_
  obtain ⟨z, T1, T2⟩ := T
  refine mw_if_lt 16 (dT d7_cap 4 rfl) (by decide) z (fun z => ?_) (fun z => ?_)
  · have T := T1 z
    refine mw_iconst (dT d7_cap 8 rfl) ?_
    exact mw_iret rfl (dT d7_cap 9 rfl) ⟨_, rfl, T⟩
  · have T := T2 z
    refine mw_iload_n (dT d7_cap 5 rfl) rfl ?_
    refine mw_sipush (by decide) (dT d7_cap 6 rfl) ?_
    obtain ⟨z, T1, T2⟩ := T
    refine mw_icmp_le 18 (dT d7_cap 7 rfl) (by decide) ⟨z, by decide⟩ (fun z => ?_) (fun z => ?_)
    · have T := T1 z
      refine mw_aload_n (dT d7_cap 10 rfl) rfl (by decide) ?_
      refine mw_getR fl_X7_45 (dT d7_cap 11 rfl) ?_
      refine mw_sipush (by decide) (dT d7_cap 12 rfl) ?_
      refine mw_iaload ro_41 (dT d7_cap 13 rfl) (by decide) ?_
      refine mw_istore_n (dT d7_cap 14 rfl) (by decide) ?_
      refine mw_aload_n (dT d7_cap 15 rfl) rfl (by decide) ?_
      refine mw_callVV mv_7_remembers ml_X7_278 (by decide) (dT d7_cap 16 rfl) (as := []) rfl rfl T (fun h2 T => ?_)
      refine mw_aload_n (dT d7_cap 17 rfl) rfl (by decide) ?_
      refine mw_getR fl_X7_45 (dT d7_cap 18 rfl) ?_
      refine mw_sipush (by decide) (dT d7_cap 19 rfl) ?_
      refine mw_iload_n (dT d7_cap 20 rfl) rfl ?_
      have T := T _ rfl
      refine mw_iastore ro_41 (dT d7_cap 21 rfl) (by decide) ?_
      refine mw_iload_n (dT d7_cap 22 rfl) rfl ?_
      exact mw_iret rfl (dT d7_cap 23 rfl) ⟨_, rfl, T⟩
    · have T := T2 z
      refine mw_iconst (dT d7_cap 8 rfl) ?_
      exact mw_iret rfl (dT d7_cap 9 rfl) ⟨_, rfl, T⟩
theorem s7_trust {K : Int → mH → Prop} {x1 : Int} {h : mH} (T : ∀ h1 : mH, h1 = mSet h 30 0 0 0 → ((mInR x1) ∧ (x1 < 0 → (K ((-1)) h1)) ∧ (¬ x1 < 0 → ((mInR x1) ∧ (x1 ≤ 999 → (OkV M7_remembers [mR 30 0] h1 (fun h2 => ∀ h3 : mH, h3 = mSet h2 41 0 311 x1 → (K (h1 41 0 311) h3)))) ∧ (¬ x1 ≤ 999 → (K ((-1)) h1)))))) : OkI M7_trust [mR 30 0, mI x1] h K := by
  refine Ok.of rfl (n := 1) rfl ?_
  show At (mPI K) M7_trust 0 [mR 30 0, mI x1, mU] [] h
  refine mw_aload_n (dT d7_trust 0 rfl) rfl (by decide) ?_
  refine mw_iconst (dT d7_trust 1 rfl) ?_
  have T := T _ rfl
  refine mw_putI fp_X7_69 (dT d7_trust 2 rfl) ?_
  refine mw_iload_n (dT d7_trust 3 rfl) rfl ?_
  obtain ⟨z, T1, T2⟩ := T
  refine mw_if_lt 16 (dT d7_trust 4 rfl) (by decide) z (fun z => ?_) (fun z => ?_)
  · have T := T1 z
    refine mw_iconst (dT d7_trust 8 rfl) ?_
    exact mw_iret rfl (dT d7_trust 9 rfl) ⟨_, rfl, T⟩
  · have T := T2 z
    refine mw_iload_n (dT d7_trust 5 rfl) rfl ?_
    refine mw_sipush (by decide) (dT d7_trust 6 rfl) ?_
    obtain ⟨z, T1, T2⟩ := T
    refine mw_icmp_le 18 (dT d7_trust 7 rfl) (by decide) ⟨z, by decide⟩ (fun z => ?_) (fun z => ?_)
    · have T := T1 z
      refine mw_aload_n (dT d7_trust 10 rfl) rfl (by decide) ?_
      refine mw_getR fl_X7_45 (dT d7_trust 11 rfl) ?_
      refine mw_sipush (by decide) (dT d7_trust 12 rfl) ?_
      refine mw_iaload ro_41 (dT d7_trust 13 rfl) (by decide) ?_
      refine mw_istore_n (dT d7_trust 14 rfl) (by decide) ?_
      refine mw_aload_n (dT d7_trust 15 rfl) rfl (by decide) ?_
      refine mw_callVV mv_7_remembers ml_X7_278 (by decide) (dT d7_trust 16 rfl) (as := []) rfl rfl T (fun h2 T => ?_)
      refine mw_aload_n (dT d7_trust 17 rfl) rfl (by decide) ?_
      refine mw_getR fl_X7_45 (dT d7_trust 18 rfl) ?_
      refine mw_sipush (by decide) (dT d7_trust 19 rfl) ?_
      refine mw_iload_n (dT d7_trust 20 rfl) rfl ?_
      have T := T _ rfl
      refine mw_iastore ro_41 (dT d7_trust 21 rfl) (by decide) ?_
      refine mw_iload_n (dT d7_trust 22 rfl) rfl ?_
      exact mw_iret rfl (dT d7_trust 23 rfl) ⟨_, rfl, T⟩
    · have T := T2 z
      refine mw_iconst (dT d7_trust 8 rfl) ?_
      exact mw_iret rfl (dT d7_trust 9 rfl) ⟨_, rfl, T⟩
abbrev A7_fleet_56 (K : Int → mH → Prop) (x1 x2 x3 x4 : Int) (h : mH) : Prop := At (mPI K) M7_fleet 56 [mR 30 0, mI x1, mI x2, mI x3, mI x4] [] h
theorem s7_fleet_56 {K : Int → mH → Prop} {x1 x2 x3 x4 : Int} {h : mH} (T : OkI M7_many [mR 30 0] h (fun v1 h1 => (mInR x4 ∧ mInR v1) ∧ (v1 ≤ x4 → (K x3 h1)) ∧ (¬ v1 ≤ x4 → ((0 ≤ ((7 * x4) + 0) ∧ ((7 * x4) + 0) < 314) ∧ ((mInR (h1 41 0 ((7 * x4) + 0)) ∧ mInR x1) ∧ ((h1 41 0 ((7 * x4) + 0)) < x1 → (A7_fleet_56 K x1 x2 (x3 + 0) (x4 + 1) h1)) ∧ (¬ (h1 41 0 ((7 * x4) + 0)) < x1 → (A7_fleet_56 K x1 x2 (x3 + 1) (x4 + 1) h1))))))) : A7_fleet_56 K x1 x2 x3 x4 h := by
  refine mw_iload (dT d7_fleet 32 rfl) rfl ?_
  refine mw_aload_n (dT d7_fleet 33 rfl) rfl (by decide) ?_
  refine mw_callVI mv_7_many ml_X7_200 (by decide) (dT d7_fleet 34 rfl) (as := []) rfl rfl T (fun v1 h1 T => ?_)
  obtain ⟨z, T1, T2⟩ := T
  refine mw_icmp_ge 95 (dT d7_fleet 35 rfl) (by decide) z (fun z => ?_) (fun z => ?_)
  · have T := T1 z
    refine mw_iload_n (dT d7_fleet 54 rfl) rfl ?_
    exact mw_iret rfl (dT d7_fleet 55 rfl) ⟨_, rfl, T⟩
  · have T := T2 z
    refine mw_iload_n (dT d7_fleet 36 rfl) rfl ?_
    refine mw_aload_n (dT d7_fleet 37 rfl) rfl (by decide) ?_
    refine mw_getR fl_X7_45 (dT d7_fleet 38 rfl) ?_
    refine mw_bipush (by decide) (dT d7_fleet 39 rfl) ?_
    refine mw_iload (dT d7_fleet 40 rfl) rfl ?_
    refine mw_imul (dT d7_fleet 41 rfl) ?_
    refine mw_iconst (dT d7_fleet 42 rfl) ?_
    refine mw_iadd (dT d7_fleet 43 rfl) ?_
    obtain ⟨z, T⟩ := T
    refine mw_iaload ro_41 (dT d7_fleet 44 rfl) z ?_
    refine mw_iload_n (dT d7_fleet 45 rfl) rfl ?_
    obtain ⟨z, T1, T2⟩ := T
    refine mw_icmp_lt 86 (dT d7_fleet 46 rfl) (by decide) z (fun z => ?_) (fun z => ?_)
    · have T := T1 z
      refine mw_iconst (dT d7_fleet 49 rfl) ?_
      refine mw_iadd (dT d7_fleet 50 rfl) ?_
      refine mw_istore_n (dT d7_fleet 51 rfl) (by decide) ?_
      refine mw_iinc (dT d7_fleet 52 rfl) rfl (by decide) ?_
      refine mw_goto 56 (dT d7_fleet 53 rfl) (by decide) ?_
      exact T
    · have T := T2 z
      refine mw_iconst (dT d7_fleet 47 rfl) ?_
      refine mw_goto 87 (dT d7_fleet 48 rfl) (by decide) ?_
      refine mw_iadd (dT d7_fleet 50 rfl) ?_
      refine mw_istore_n (dT d7_fleet 51 rfl) (by decide) ?_
      refine mw_iinc (dT d7_fleet 52 rfl) rfl (by decide) ?_
      refine mw_goto 56 (dT d7_fleet 53 rfl) (by decide) ?_
      exact T
theorem s7_fleet {K : Int → mH → Prop} {x1 : Int} {x2 : Int} {h : mH} (T : ∀ h1 : mH, h1 = mSet h 30 0 0 0 → ((mInR x1) ∧ (x1 < 1 → (K ((-1)) h1)) ∧ (¬ x1 < 1 → ((mInR x1) ∧ (99 < x1 → (K ((-1)) h1)) ∧ (¬ 99 < x1 → ((mInR x2) ∧ (x2 < 0 → (K ((-1)) h1)) ∧ (¬ x2 < 0 → ((mInR x2) ∧ (x2 ≤ 500 → (OkV M7_remembers [mR 30 0] h1 (fun h2 => ∀ h3 : mH, h3 = mSet h2 41 0 312 x1 → (∀ h4 : mH, h4 = mSet h3 41 0 313 x2 → (A7_fleet_56 K x1 x2 0 0 h4))))) ∧ (¬ x2 ≤ 500 → (K ((-1)) h1)))))))))) : OkI M7_fleet [mR 30 0, mI x1, mI x2] h K := by
  refine Ok.of rfl (n := 2) rfl ?_
  show At (mPI K) M7_fleet 0 [mR 30 0, mI x1, mI x2, mU, mU] [] h
  refine mw_aload_n (dT d7_fleet 0 rfl) rfl (by decide) ?_
  refine mw_iconst (dT d7_fleet 1 rfl) ?_
  have T := T _ rfl
  refine mw_putI fp_X7_69 (dT d7_fleet 2 rfl) ?_
  refine mw_iload_n (dT d7_fleet 3 rfl) rfl ?_
  refine mw_iconst (dT d7_fleet 4 rfl) ?_
  obtain ⟨z, T1, T2⟩ := T
  refine mw_icmp_lt 27 (dT d7_fleet 5 rfl) (by decide) ⟨z, by decide⟩ (fun z => ?_) (fun z => ?_)
  · have T := T1 z
    refine mw_iconst (dT d7_fleet 14 rfl) ?_
    exact mw_iret rfl (dT d7_fleet 15 rfl) ⟨_, rfl, T⟩
  · have T := T2 z
    refine mw_iload_n (dT d7_fleet 6 rfl) rfl ?_
    refine mw_bipush (by decide) (dT d7_fleet 7 rfl) ?_
    obtain ⟨z, T1, T2⟩ := T
    refine mw_icmp_gt 27 (dT d7_fleet 8 rfl) (by decide) ⟨z, by decide⟩ (fun z => ?_) (fun z => ?_)
    · have T := T1 z
      refine mw_iconst (dT d7_fleet 14 rfl) ?_
      exact mw_iret rfl (dT d7_fleet 15 rfl) ⟨_, rfl, T⟩
    · have T := T2 z
      refine mw_iload_n (dT d7_fleet 9 rfl) rfl ?_
      obtain ⟨z, T1, T2⟩ := T
      refine mw_if_lt 27 (dT d7_fleet 10 rfl) (by decide) z (fun z => ?_) (fun z => ?_)
      · have T := T1 z
        refine mw_iconst (dT d7_fleet 14 rfl) ?_
        exact mw_iret rfl (dT d7_fleet 15 rfl) ⟨_, rfl, T⟩
      · have T := T2 z
        refine mw_iload_n (dT d7_fleet 11 rfl) rfl ?_
        refine mw_sipush (by decide) (dT d7_fleet 12 rfl) ?_
        obtain ⟨z, T1, T2⟩ := T
        refine mw_icmp_le 29 (dT d7_fleet 13 rfl) (by decide) ⟨z, by decide⟩ (fun z => ?_) (fun z => ?_)
        · have T := T1 z
          refine mw_aload_n (dT d7_fleet 16 rfl) rfl (by decide) ?_
          refine mw_callVV mv_7_remembers ml_X7_278 (by decide) (dT d7_fleet 17 rfl) (as := []) rfl rfl T (fun h2 T => ?_)
          refine mw_aload_n (dT d7_fleet 18 rfl) rfl (by decide) ?_
          refine mw_getR fl_X7_45 (dT d7_fleet 19 rfl) ?_
          refine mw_sipush (by decide) (dT d7_fleet 20 rfl) ?_
          refine mw_iload_n (dT d7_fleet 21 rfl) rfl ?_
          have T := T _ rfl
          refine mw_iastore ro_41 (dT d7_fleet 22 rfl) (by decide) ?_
          refine mw_aload_n (dT d7_fleet 23 rfl) rfl (by decide) ?_
          refine mw_getR fl_X7_45 (dT d7_fleet 24 rfl) ?_
          refine mw_sipush (by decide) (dT d7_fleet 25 rfl) ?_
          refine mw_iload_n (dT d7_fleet 26 rfl) rfl ?_
          have T := T _ rfl
          refine mw_iastore ro_41 (dT d7_fleet 27 rfl) (by decide) ?_
          refine mw_iconst (dT d7_fleet 28 rfl) ?_
          refine mw_istore_n (dT d7_fleet 29 rfl) (by decide) ?_
          refine mw_iconst (dT d7_fleet 30 rfl) ?_
          refine mw_istore (dT d7_fleet 31 rfl) (by decide) ?_
          exact T
        · have T := T2 z
          refine mw_iconst (dT d7_fleet 14 rfl) ?_
          exact mw_iret rfl (dT d7_fleet 15 rfl) ⟨_, rfl, T⟩
abbrev A7_classesOf_4 (K : Int → mH → Prop) (x1 x2 x3 : Int) (h : mH) : Prop := At (mPI K) M7_classesOf 4 [mR 30 0, mI x1, mI x2, mI x3] [] h
theorem s7_classesOf_4 {K : Int → mH → Prop} {x1 x2 x3 : Int} {h : mH} (T : (0 ≤ x1 ∧ x1 < 8) ∧ ((mInR x3 ∧ mInR (h 35 0 x1)) ∧ ((h 35 0 x1) ≤ x3 → (K x2 h)) ∧ (¬ (h 35 0 x1) ≤ x3 → (OkI M7_firstOf [mR 30 0, mI x1, mI x3] h (fun v1 h1 => (mInR v1 ∧ mInR x3) ∧ (¬ v1 = x3 → (A7_classesOf_4 K x1 (x2 + 0) (x3 + 1) h1)) ∧ (v1 = x3 → (A7_classesOf_4 K x1 (x2 + 1) (x3 + 1) h1))))))) : A7_classesOf_4 K x1 x2 x3 h := by
  refine mw_iload_n (dT d7_classesOf 4 rfl) rfl ?_
  refine mw_aload_n (dT d7_classesOf 5 rfl) rfl (by decide) ?_
  refine mw_getR fl_X7_23 (dT d7_classesOf 6 rfl) ?_
  refine mw_iload_n (dT d7_classesOf 7 rfl) rfl ?_
  obtain ⟨z, T⟩ := T
  refine mw_iaload ro_35 (dT d7_classesOf 8 rfl) z ?_
  obtain ⟨z, T1, T2⟩ := T
  refine mw_icmp_ge 38 (dT d7_classesOf 9 rfl) (by decide) z (fun z => ?_) (fun z => ?_)
  · have T := T1 z
    refine mw_iload_n (dT d7_classesOf 24 rfl) rfl ?_
    exact mw_iret rfl (dT d7_classesOf 25 rfl) ⟨_, rfl, T⟩
  · have T := T2 z
    refine mw_iload_n (dT d7_classesOf 10 rfl) rfl ?_
    refine mw_aload_n (dT d7_classesOf 11 rfl) rfl (by decide) ?_
    refine mw_iload_n (dT d7_classesOf 12 rfl) rfl ?_
    refine mw_iload_n (dT d7_classesOf 13 rfl) rfl ?_
    refine mw_callVI mv_7_firstOf ml_X7_210 (by decide) (dT d7_classesOf 14 rfl) (as := [mI _, mI _]) rfl rfl T (fun v1 h1 T => ?_)
    refine mw_iload_n (dT d7_classesOf 15 rfl) rfl ?_
    obtain ⟨z, T1, T2⟩ := T
    refine mw_icmp_ne 29 (dT d7_classesOf 16 rfl) (by decide) z (fun z => ?_) (fun z => ?_)
    · have T := T1 z
      refine mw_iconst (dT d7_classesOf 19 rfl) ?_
      refine mw_iadd (dT d7_classesOf 20 rfl) ?_
      refine mw_istore_n (dT d7_classesOf 21 rfl) (by decide) ?_
      refine mw_iinc (dT d7_classesOf 22 rfl) rfl (by decide) ?_
      refine mw_goto 4 (dT d7_classesOf 23 rfl) (by decide) ?_
      exact T
    · have T := T2 z
      refine mw_iconst (dT d7_classesOf 17 rfl) ?_
      refine mw_goto 30 (dT d7_classesOf 18 rfl) (by decide) ?_
      refine mw_iadd (dT d7_classesOf 20 rfl) ?_
      refine mw_istore_n (dT d7_classesOf 21 rfl) (by decide) ?_
      refine mw_iinc (dT d7_classesOf 22 rfl) rfl (by decide) ?_
      refine mw_goto 4 (dT d7_classesOf 23 rfl) (by decide) ?_
      exact T
theorem s7_classesOf {K : Int → mH → Prop} {x1 : Int} {h : mH} (T : A7_classesOf_4 K x1 0 0 h) : OkI M7_classesOf [mR 30 0, mI x1] h K := by
  refine Ok.of rfl (n := 2) rfl ?_
  show At (mPI K) M7_classesOf 0 [mR 30 0, mI x1, mU, mU] [] h
  refine mw_iconst (dT d7_classesOf 0 rfl) ?_
  refine mw_istore_n (dT d7_classesOf 1 rfl) (by decide) ?_
  refine mw_iconst (dT d7_classesOf 2 rfl) ?_
  refine mw_istore_n (dT d7_classesOf 3 rfl) (by decide) ?_
  exact T
abbrev A7_farthestOff_10 (K : Int → mH → Prop) (x1 x2 x3 x5 : Int) (h : mH) : Prop := At (mPI K) M7_farthestOff 10 [mR 30 0, mI x1, mI x2, mJ x3, mU, mI x5, mU, mU] [] h
theorem s7_farthestOff_10 {K : Int → mH → Prop} {x1 x2 x3 x5 : Int} {h : mH} (T : (0 ≤ x1 ∧ x1 < 8) ∧ ((mInR x5 ∧ mInR (h 35 0 x1)) ∧ ((h 35 0 x1) ≤ x5 → (K x2 h)) ∧ (¬ (h 35 0 x1) ≤ x5 → (OkI M7_firstOf [mR 30 0, mI x1, mI x5] h (fun v1 h1 => (mInR v1 ∧ mInR x5) ∧ (¬ v1 = x5 → (A7_farthestOff_10 K x1 x2 x3 (x5 + 1) h1)) ∧ (v1 = x5 → (OkI M7_risksOf [mR 30 0, mI x1, mI x5] h1 (fun v2 h2 => (mInR v2) ∧ (¬ v2 = 0 → (OkJ M7_sumOf [mR 30 0, mI x1, mI x5, mI 1] h2 (fun v3 h3 => OkJ M7_premiumsOf [mR 30 0, mI x1, mI x5] h3 (fun v4 h4 => OkJ M7_without [mJ (v3 - v4)] h4 (fun v5 h5 => (mInL v5 ∧ mInL x3) ∧ (x3 < v5 → (A7_farthestOff_10 K x1 x5 v5 (x5 + 1) h5)) ∧ (¬ x3 < v5 → (A7_farthestOff_10 K x1 x2 x3 (x5 + 1) h5))))))) ∧ (v2 = 0 → (A7_farthestOff_10 K x1 x2 x3 (x5 + 1) h2)))))))))) : A7_farthestOff_10 K x1 x2 x3 x5 h := by
  refine mw_iload (dT d7_farthestOff 6 rfl) rfl ?_
  refine mw_aload_n (dT d7_farthestOff 7 rfl) rfl (by decide) ?_
  refine mw_getR fl_X7_23 (dT d7_farthestOff 8 rfl) ?_
  refine mw_iload_n (dT d7_farthestOff 9 rfl) rfl ?_
  obtain ⟨z, T⟩ := T
  refine mw_iaload ro_35 (dT d7_farthestOff 10 rfl) z ?_
  obtain ⟨z, T1, T2⟩ := T
  refine mw_icmp_ge 89 (dT d7_farthestOff 11 rfl) (by decide) z (fun z => ?_) (fun z => ?_)
  · have T := T1 z
    refine mw_iload_n (dT d7_farthestOff 47 rfl) rfl ?_
    exact mw_iret rfl (dT d7_farthestOff 48 rfl) ⟨_, rfl, T⟩
  · have T := T2 z
    refine mw_aload_n (dT d7_farthestOff 12 rfl) rfl (by decide) ?_
    refine mw_iload_n (dT d7_farthestOff 13 rfl) rfl ?_
    refine mw_iload (dT d7_farthestOff 14 rfl) rfl ?_
    refine mw_callVI mv_7_firstOf ml_X7_210 (by decide) (dT d7_farthestOff 15 rfl) (as := [mI _, mI _]) rfl rfl T (fun v1 h1 T => ?_)
    refine mw_iload (dT d7_farthestOff 16 rfl) rfl ?_
    obtain ⟨z, T1, T2⟩ := T
    refine mw_icmp_ne 83 (dT d7_farthestOff 17 rfl) (by decide) z (fun z => ?_) (fun z => ?_)
    · have T := T1 z
      refine mw_iinc (dT d7_farthestOff 45 rfl) rfl (by decide) ?_
      refine mw_goto 10 (dT d7_farthestOff 46 rfl) (by decide) ?_
      exact T
    · have T := T2 z
      refine mw_aload_n (dT d7_farthestOff 18 rfl) rfl (by decide) ?_
      refine mw_iload_n (dT d7_farthestOff 19 rfl) rfl ?_
      refine mw_iload (dT d7_farthestOff 20 rfl) rfl ?_
      refine mw_callVI mv_7_risksOf ml_X7_239 (by decide) (dT d7_farthestOff 21 rfl) (as := [mI _, mI _]) rfl rfl T (fun v2 h2 T => ?_)
      obtain ⟨z, T1, T2⟩ := T
      refine mw_if_ne 46 (dT d7_farthestOff 22 rfl) (by decide) z (fun z => ?_) (fun z => ?_)
      · have T := T1 z
        refine mw_aload_n (dT d7_farthestOff 24 rfl) rfl (by decide) ?_
        refine mw_iload_n (dT d7_farthestOff 25 rfl) rfl ?_
        refine mw_iload (dT d7_farthestOff 26 rfl) rfl ?_
        refine mw_iconst (dT d7_farthestOff 27 rfl) ?_
        refine mw_callVJ mv_7_sumOf ml_X7_242 (by decide) (dT d7_farthestOff 28 rfl) (as := [mI _, mI _, mI _]) rfl rfl T (fun v3 h3 T => ?_)
        refine mw_aload_n (dT d7_farthestOff 29 rfl) rfl (by decide) ?_
        refine mw_iload_n (dT d7_farthestOff 30 rfl) rfl ?_
        refine mw_iload (dT d7_farthestOff 31 rfl) rfl ?_
        refine mw_callVJ mv_7_premiumsOf ml_X7_245 (by decide) (dT d7_farthestOff 32 rfl) (as := [mI _, mI _]) rfl rfl T (fun v4 h4 T => ?_)
        refine mw_lsub (dT d7_farthestOff 33 rfl) ?_
        refine mw_callSJ mt_7_without ml_X7_248 (by decide) (dT d7_farthestOff 34 rfl) (as := [mJ _]) rfl rfl T (fun v5 h5 T => ?_)
        refine mw_lstore (dT d7_farthestOff 35 rfl) (by decide) ?_
        refine mw_lload (dT d7_farthestOff 36 rfl) rfl ?_
        refine mw_lload_n (dT d7_farthestOff 37 rfl) rfl ?_
        obtain ⟨z, T1, T2⟩ := T
        refine mw_lif_gt 77 (dT d7_farthestOff 38 rfl) (dT d7_farthestOff 39 rfl) (by decide) z (fun z => ?_) (fun z => ?_)
        · have T := T1 z
          refine mw_iload (dT d7_farthestOff 41 rfl) rfl ?_
          refine mw_istore_n (dT d7_farthestOff 42 rfl) (by decide) ?_
          refine mw_lload (dT d7_farthestOff 43 rfl) rfl ?_
          refine mw_lstore_n (dT d7_farthestOff 44 rfl) (by decide) ?_
          refine mw_iinc (dT d7_farthestOff 45 rfl) rfl (by decide) ?_
          refine mw_goto 10 (dT d7_farthestOff 46 rfl) (by decide) ?_
          exact At.forget [6] T
        · have T := T2 z
          refine mw_goto 83 (dT d7_farthestOff 40 rfl) (by decide) ?_
          refine mw_iinc (dT d7_farthestOff 45 rfl) rfl (by decide) ?_
          refine mw_goto 10 (dT d7_farthestOff 46 rfl) (by decide) ?_
          exact At.forget [6] T
      · have T := T2 z
        refine mw_goto 83 (dT d7_farthestOff 23 rfl) (by decide) ?_
        refine mw_iinc (dT d7_farthestOff 45 rfl) rfl (by decide) ?_
        refine mw_goto 10 (dT d7_farthestOff 46 rfl) (by decide) ?_
        exact T
theorem s7_farthestOff {K : Int → mH → Prop} {x1 : Int} {h : mH} (T : A7_farthestOff_10 K x1 ((-2)) ((-1)) 0 h) : OkI M7_farthestOff [mR 30 0, mI x1] h K := by
  refine Ok.of rfl (n := 6) rfl ?_
  show At (mPI K) M7_farthestOff 0 [mR 30 0, mI x1, mU, mU, mU, mU, mU, mU] [] h
  refine mw_bipush (by decide) (dT d7_farthestOff 0 rfl) ?_
  refine mw_istore_n (dT d7_farthestOff 1 rfl) (by decide) ?_
  refine mw_ldc2 kl_X7_307 (dT d7_farthestOff 2 rfl) ?_
  refine mw_lstore_n (dT d7_farthestOff 3 rfl) (by decide) ?_
  refine mw_iconst (dT d7_farthestOff 4 rfl) ?_
  refine mw_istore (dT d7_farthestOff 5 rfl) (by decide) ?_
  exact T
theorem s7_factor {K : Int → mH → Prop} {x1 : Int} {x2 : Int} {h : mH} (T : ∀ h1 : mH, h1 = mSet h 30 0 0 0 → (OkI M7_isFactor [mR 30 0, mI x1] h1 (fun v1 h2 => (mInR v1) ∧ (¬ v1 = 0 → (mInR x2 ∧ (x2 = 0 → ((0 ≤ x1 ∧ x1 < 8) ∧ (K (h2 35 0 x1) h2))) ∧ (x2 = 1 → ((0 ≤ x1 ∧ x1 < 8) ∧ (K (h2 36 0 x1) h2))) ∧ (x2 = 2 → ((0 ≤ x1 ∧ x1 < 8) ∧ (K (h2 37 0 x1) h2))) ∧ (x2 = 3 → (OkI M7_classesOf [mR 30 0, mI x1] h2 (fun v2 h3 => K v2 h3))) ∧ (x2 = 4 → (OkI M7_farthestOff [mR 30 0, mI x1] h2 (fun v3 h4 => K v3 h4))) ∧ (x2 < 0 ∨ 4 < x2 → (∀ h5 : mH, h5 = mSet h2 30 0 0 2 → (K 0 h5))))) ∧ (v1 = 0 → (∀ h6 : mH, h6 = mSet h2 30 0 0 1 → (K 0 h6)))))) : OkI M7_factor [mR 30 0, mI x1, mI x2] h K := by
  refine Ok.of rfl (n := 0) rfl ?_
  show At (mPI K) M7_factor 0 [mR 30 0, mI x1, mI x2] [] h
  refine mw_aload_n (dT d7_factor 0 rfl) rfl (by decide) ?_
  refine mw_iconst (dT d7_factor 1 rfl) ?_
  have T := T _ rfl
  refine mw_putI fp_X7_69 (dT d7_factor 2 rfl) ?_
  refine mw_aload_n (dT d7_factor 3 rfl) rfl (by decide) ?_
  refine mw_iload_n (dT d7_factor 4 rfl) rfl ?_
  refine mw_callVI mv_7_isFactor ml_X7_203 (by decide) (dT d7_factor 5 rfl) (as := [mI _]) rfl rfl T (fun v1 h2 T => ?_)
  obtain ⟨z, T1, T2⟩ := T
  refine mw_if_ne 20 (dT d7_factor 6 rfl) (by decide) z (fun z => ?_) (fun z => ?_)
  · have T := T1 z
    refine mw_iload_n (dT d7_factor 12 rfl) rfl ?_
    obtain ⟨z, T0, T1, T2, T3, T4, Td⟩ := T
    by_cases y0 : x2 = 0
    · have T := T0 y0
      refine mw_tableIn 56 (dT d7_factor 13 rfl) z (by omega) (by omega) (by rw [y0]; rfl) (by decide) ?_
      refine mw_aload_n (dT d7_factor 14 rfl) rfl (by decide) ?_
      refine mw_getR fl_X7_23 (dT d7_factor 15 rfl) ?_
      refine mw_iload_n (dT d7_factor 16 rfl) rfl ?_
      obtain ⟨z, T⟩ := T
      refine mw_iaload ro_35 (dT d7_factor 17 rfl) z ?_
      exact mw_iret rfl (dT d7_factor 18 rfl) ⟨_, rfl, T⟩
    by_cases y1 : x2 = 1
    · have T := T1 y1
      refine mw_tableIn 63 (dT d7_factor 13 rfl) z (by omega) (by omega) (by rw [y1]; rfl) (by decide) ?_
      refine mw_aload_n (dT d7_factor 19 rfl) rfl (by decide) ?_
      refine mw_getR fl_X7_26 (dT d7_factor 20 rfl) ?_
      refine mw_iload_n (dT d7_factor 21 rfl) rfl ?_
      obtain ⟨z, T⟩ := T
      refine mw_iaload ro_36 (dT d7_factor 22 rfl) z ?_
      exact mw_iret rfl (dT d7_factor 23 rfl) ⟨_, rfl, T⟩
    by_cases y2 : x2 = 2
    · have T := T2 y2
      refine mw_tableIn 70 (dT d7_factor 13 rfl) z (by omega) (by omega) (by rw [y2]; rfl) (by decide) ?_
      refine mw_aload_n (dT d7_factor 24 rfl) rfl (by decide) ?_
      refine mw_getR fl_X7_29 (dT d7_factor 25 rfl) ?_
      refine mw_iload_n (dT d7_factor 26 rfl) rfl ?_
      obtain ⟨z, T⟩ := T
      refine mw_iaload ro_37 (dT d7_factor 27 rfl) z ?_
      exact mw_iret rfl (dT d7_factor 28 rfl) ⟨_, rfl, T⟩
    by_cases y3 : x2 = 3
    · have T := T3 y3
      refine mw_tableIn 77 (dT d7_factor 13 rfl) z (by omega) (by omega) (by rw [y3]; rfl) (by decide) ?_
      refine mw_aload_n (dT d7_factor 29 rfl) rfl (by decide) ?_
      refine mw_iload_n (dT d7_factor 30 rfl) rfl ?_
      refine mw_callVI mv_7_classesOf ml_X7_309 (by decide) (dT d7_factor 31 rfl) (as := [mI _]) rfl rfl T (fun v2 h3 T => ?_)
      exact mw_iret rfl (dT d7_factor 32 rfl) ⟨_, rfl, T⟩
    by_cases y4 : x2 = 4
    · have T := T4 y4
      refine mw_tableIn 83 (dT d7_factor 13 rfl) z (by omega) (by omega) (by rw [y4]; rfl) (by decide) ?_
      refine mw_aload_n (dT d7_factor 33 rfl) rfl (by decide) ?_
      refine mw_iload_n (dT d7_factor 34 rfl) rfl ?_
      refine mw_callVI mv_7_farthestOff ml_X7_312 (by decide) (dT d7_factor 35 rfl) (as := [mI _]) rfl rfl T (fun v3 h4 T => ?_)
      exact mw_iret rfl (dT d7_factor 36 rfl) ⟨_, rfl, T⟩
    have yd : x2 < 0 ∨ 4 < x2 := by omega
    have T := Td yd
    refine mw_tableOut 89 (dT d7_factor 13 rfl) z yd (by decide) ?_
    refine mw_aload_n (dT d7_factor 37 rfl) rfl (by decide) ?_
    refine mw_iconst (dT d7_factor 38 rfl) ?_
    have T := T _ rfl
    refine mw_putI fp_X7_69 (dT d7_factor 39 rfl) ?_
    refine mw_iconst (dT d7_factor 40 rfl) ?_
    exact mw_iret rfl (dT d7_factor 41 rfl) ⟨_, rfl, T⟩
  · have T := T2 z
    refine mw_aload_n (dT d7_factor 7 rfl) rfl (by decide) ?_
    refine mw_iconst (dT d7_factor 8 rfl) ?_
    have T := T _ rfl
    refine mw_putI fp_X7_69 (dT d7_factor 9 rfl) ?_
    refine mw_iconst (dT d7_factor 10 rfl) ?_
    exact mw_iret rfl (dT d7_factor 11 rfl) ⟨_, rfl, T⟩
theorem s7_margin {K : Int → mH → Prop} {x1 : Int} {x2 : Int} {x3 : Int} {h : mH} (T : ∀ h1 : mH, h1 = mSet h 30 0 0 0 → (OkI M7_isLevel [mR 30 0, mI x1, mI x2] h1 (fun v1 h2 => (mInR v1) ∧ (¬ v1 = 0 → (mInR x3 ∧ (x3 = 0 → (OkI M7_relativityOf [mR 30 0, mI x1, mI x2] h2 (fun v2 h3 => (mInR v2) ∧ (K v2 h3)))) ∧ (x3 = 1 → (OkI M7_firstOf [mR 30 0, mI x1, mI x2] h2 (fun v3 h4 => (mInR v3) ∧ (K v3 h4)))) ∧ (x3 = 2 → (OkI M7_lastOf [mR 30 0, mI x1, mI x2] h2 (fun v4 h5 => (mInR v4) ∧ (K v4 h5)))) ∧ (x3 = 3 → (OkJ M7_sumOf [mR 30 0, mI x1, mI x2, mI 1] h2 (fun v5 h6 => K v5 h6))) ∧ (x3 = 4 → (OkJ M7_premiumsOf [mR 30 0, mI x1, mI x2] h2 (fun v6 h7 => K v6 h7))) ∧ (x3 = 5 → (OkJ M7_sumOf [mR 30 0, mI x1, mI x2, mI 0] h2 (fun v7 h8 => K v7 h8))) ∧ (x3 = 6 → (OkI M7_risksOf [mR 30 0, mI x1, mI x2] h2 (fun v8 h9 => (mInR v8) ∧ (K v8 h9)))) ∧ (x3 = 7 → (OkI M7_balances [mR 30 0, mI x1, mI x2] h2 (fun v9 h10 => (mInR v9) ∧ (v9 = 0 → (K 0 h10)) ∧ (¬ v9 = 0 → (K 1 h10))))) ∧ (x3 < 0 ∨ 7 < x3 → (K ((-2000)) h2)))) ∧ (v1 = 0 → (K ((-2000)) h2))))) : OkJ M7_margin [mR 30 0, mI x1, mI x2, mI x3] h K := by
  refine Ok.of rfl (n := 0) rfl ?_
  show At (mPJ K) M7_margin 0 [mR 30 0, mI x1, mI x2, mI x3] [] h
  refine mw_aload_n (dT d7_margin 0 rfl) rfl (by decide) ?_
  refine mw_iconst (dT d7_margin 1 rfl) ?_
  have T := T _ rfl
  refine mw_putI fp_X7_69 (dT d7_margin 2 rfl) ?_
  refine mw_aload_n (dT d7_margin 3 rfl) rfl (by decide) ?_
  refine mw_iload_n (dT d7_margin 4 rfl) rfl ?_
  refine mw_iload_n (dT d7_margin 5 rfl) rfl ?_
  refine mw_callVI mv_7_isLevel ml_X7_292 (by decide) (dT d7_margin 6 rfl) (as := [mI _, mI _]) rfl rfl T (fun v1 h2 T => ?_)
  obtain ⟨z, T1, T2⟩ := T
  refine mw_if_ne 18 (dT d7_margin 7 rfl) (by decide) z (fun z => ?_) (fun z => ?_)
  · have T := T1 z
    refine mw_iload_n (dT d7_margin 10 rfl) rfl ?_
    obtain ⟨z, T0, T1, T2, T3, T4, T5, T6, T7, Td⟩ := T
    by_cases y0 : x3 = 0
    · have T := T0 y0
      refine mw_tableIn 64 (dT d7_margin 11 rfl) z (by omega) (by omega) (by rw [y0]; rfl) (by decide) ?_
      refine mw_aload_n (dT d7_margin 12 rfl) rfl (by decide) ?_
      refine mw_iload_n (dT d7_margin 13 rfl) rfl ?_
      refine mw_iload_n (dT d7_margin 14 rfl) rfl ?_
      refine mw_callVI mv_7_relativityOf ml_X7_222 (by decide) (dT d7_margin 15 rfl) (as := [mI _, mI _]) rfl rfl T (fun v2 h3 T => ?_)
      obtain ⟨z, T⟩ := T
      refine mw_i2l (dT d7_margin 16 rfl) z ?_
      exact mw_lret rfl (dT d7_margin 17 rfl) ⟨_, rfl, T⟩
    by_cases y1 : x3 = 1
    · have T := T1 y1
      refine mw_tableIn 72 (dT d7_margin 11 rfl) z (by omega) (by omega) (by rw [y1]; rfl) (by decide) ?_
      refine mw_aload_n (dT d7_margin 18 rfl) rfl (by decide) ?_
      refine mw_iload_n (dT d7_margin 19 rfl) rfl ?_
      refine mw_iload_n (dT d7_margin 20 rfl) rfl ?_
      refine mw_callVI mv_7_firstOf ml_X7_210 (by decide) (dT d7_margin 21 rfl) (as := [mI _, mI _]) rfl rfl T (fun v3 h4 T => ?_)
      obtain ⟨z, T⟩ := T
      refine mw_i2l (dT d7_margin 22 rfl) z ?_
      exact mw_lret rfl (dT d7_margin 23 rfl) ⟨_, rfl, T⟩
    by_cases y2 : x3 = 2
    · have T := T2 y2
      refine mw_tableIn 80 (dT d7_margin 11 rfl) z (by omega) (by omega) (by rw [y2]; rfl) (by decide) ?_
      refine mw_aload_n (dT d7_margin 24 rfl) rfl (by decide) ?_
      refine mw_iload_n (dT d7_margin 25 rfl) rfl ?_
      refine mw_iload_n (dT d7_margin 26 rfl) rfl ?_
      refine mw_callVI mv_7_lastOf ml_X7_213 (by decide) (dT d7_margin 27 rfl) (as := [mI _, mI _]) rfl rfl T (fun v4 h5 T => ?_)
      obtain ⟨z, T⟩ := T
      refine mw_i2l (dT d7_margin 28 rfl) z ?_
      exact mw_lret rfl (dT d7_margin 29 rfl) ⟨_, rfl, T⟩
    by_cases y3 : x3 = 3
    · have T := T3 y3
      refine mw_tableIn 88 (dT d7_margin 11 rfl) z (by omega) (by omega) (by rw [y3]; rfl) (by decide) ?_
      refine mw_aload_n (dT d7_margin 30 rfl) rfl (by decide) ?_
      refine mw_iload_n (dT d7_margin 31 rfl) rfl ?_
      refine mw_iload_n (dT d7_margin 32 rfl) rfl ?_
      refine mw_iconst (dT d7_margin 33 rfl) ?_
      refine mw_callVJ mv_7_sumOf ml_X7_242 (by decide) (dT d7_margin 34 rfl) (as := [mI _, mI _, mI _]) rfl rfl T (fun v5 h6 T => ?_)
      exact mw_lret rfl (dT d7_margin 35 rfl) ⟨_, rfl, T⟩
    by_cases y4 : x3 = 4
    · have T := T4 y4
      refine mw_tableIn 96 (dT d7_margin 11 rfl) z (by omega) (by omega) (by rw [y4]; rfl) (by decide) ?_
      refine mw_aload_n (dT d7_margin 36 rfl) rfl (by decide) ?_
      refine mw_iload_n (dT d7_margin 37 rfl) rfl ?_
      refine mw_iload_n (dT d7_margin 38 rfl) rfl ?_
      refine mw_callVJ mv_7_premiumsOf ml_X7_245 (by decide) (dT d7_margin 39 rfl) (as := [mI _, mI _]) rfl rfl T (fun v6 h7 T => ?_)
      exact mw_lret rfl (dT d7_margin 40 rfl) ⟨_, rfl, T⟩
    by_cases y5 : x3 = 5
    · have T := T5 y5
      refine mw_tableIn 103 (dT d7_margin 11 rfl) z (by omega) (by omega) (by rw [y5]; rfl) (by decide) ?_
      refine mw_aload_n (dT d7_margin 41 rfl) rfl (by decide) ?_
      refine mw_iload_n (dT d7_margin 42 rfl) rfl ?_
      refine mw_iload_n (dT d7_margin 43 rfl) rfl ?_
      refine mw_iconst (dT d7_margin 44 rfl) ?_
      refine mw_callVJ mv_7_sumOf ml_X7_242 (by decide) (dT d7_margin 45 rfl) (as := [mI _, mI _, mI _]) rfl rfl T (fun v7 h8 T => ?_)
      exact mw_lret rfl (dT d7_margin 46 rfl) ⟨_, rfl, T⟩
    by_cases y6 : x3 = 6
    · have T := T6 y6
      refine mw_tableIn 111 (dT d7_margin 11 rfl) z (by omega) (by omega) (by rw [y6]; rfl) (by decide) ?_
      refine mw_aload_n (dT d7_margin 47 rfl) rfl (by decide) ?_
      refine mw_iload_n (dT d7_margin 48 rfl) rfl ?_
      refine mw_iload_n (dT d7_margin 49 rfl) rfl ?_
      refine mw_callVI mv_7_risksOf ml_X7_239 (by decide) (dT d7_margin 50 rfl) (as := [mI _, mI _]) rfl rfl T (fun v8 h9 T => ?_)
      obtain ⟨z, T⟩ := T
      refine mw_i2l (dT d7_margin 51 rfl) z ?_
      exact mw_lret rfl (dT d7_margin 52 rfl) ⟨_, rfl, T⟩
    by_cases y7 : x3 = 7
    · have T := T7 y7
      refine mw_tableIn 119 (dT d7_margin 11 rfl) z (by omega) (by omega) (by rw [y7]; rfl) (by decide) ?_
      refine mw_aload_n (dT d7_margin 53 rfl) rfl (by decide) ?_
      refine mw_iload_n (dT d7_margin 54 rfl) rfl ?_
      refine mw_iload_n (dT d7_margin 55 rfl) rfl ?_
      refine mw_callVI mv_7_balances ml_X7_252 (by decide) (dT d7_margin 56 rfl) (as := [mI _, mI _]) rfl rfl T (fun v9 h10 T => ?_)
      obtain ⟨z, T1, T2⟩ := T
      refine mw_if_eq 132 (dT d7_margin 57 rfl) (by decide) z (fun z => ?_) (fun z => ?_)
      · have T := T1 z
        refine mw_lconst (dT d7_margin 60 rfl) ?_
        exact mw_lret rfl (dT d7_margin 61 rfl) ⟨_, rfl, T⟩
      · have T := T2 z
        refine mw_lconst (dT d7_margin 58 rfl) ?_
        refine mw_goto 133 (dT d7_margin 59 rfl) (by decide) ?_
        exact mw_lret rfl (dT d7_margin 61 rfl) ⟨_, rfl, T⟩
    have yd : x3 < 0 ∨ 7 < x3 := by omega
    have T := Td yd
    refine mw_tableOut 134 (dT d7_margin 11 rfl) z yd (by decide) ?_
    refine mw_ldc2 kl_X7_315 (dT d7_margin 62 rfl) ?_
    exact mw_lret rfl (dT d7_margin 63 rfl) ⟨_, rfl, T⟩
  · have T := T2 z
    refine mw_ldc2 kl_X7_315 (dT d7_margin 8 rfl) ?_
    exact mw_lret rfl (dT d7_margin 9 rfl) ⟨_, rfl, T⟩
theorem s7_step {K : Int → mH → Prop} {x1 : Int} {x2 : Int} {h : mH} (T : ∀ h1 : mH, h1 = mSet h 30 0 0 0 → (OkI M7_isRisk [mR 30 0, mI x1] h1 (fun v1 h2 => (mInR v1) ∧ (v1 = 0 → (K ((-1)) h2)) ∧ (¬ v1 = 0 → ((mInR x2) ∧ (x2 < 0 → (K ((-1)) h2)) ∧ (¬ x2 < 0 → (OkI M7_factors [mR 30 0] h2 (fun v2 h3 => (mInR x2 ∧ mInR v2) ∧ (v2 < x2 → (K ((-1)) h3)) ∧ (¬ v2 < x2 → ((0 ≤ ((7 * x1) + 0) ∧ ((7 * x1) + 0) < 314) ∧ (OkJ M7_premiumBehind [mR 30 0, mI (h3 41 0 ((7 * x1) + 0)), mI ((7 * x1) + 3), mI x2] h3 (fun v3 h4 => K v3 h4)))))))))))) : OkJ M7_step [mR 30 0, mI x1, mI x2] h K := by
  refine Ok.of rfl (n := 0) rfl ?_
  show At (mPJ K) M7_step 0 [mR 30 0, mI x1, mI x2] [] h
  refine mw_aload_n (dT d7_step 0 rfl) rfl (by decide) ?_
  refine mw_iconst (dT d7_step 1 rfl) ?_
  have T := T _ rfl
  refine mw_putI fp_X7_69 (dT d7_step 2 rfl) ?_
  refine mw_aload_n (dT d7_step 3 rfl) rfl (by decide) ?_
  refine mw_iload_n (dT d7_step 4 rfl) rfl ?_
  refine mw_callVI mv_7_isRisk ml_X7_295 (by decide) (dT d7_step 5 rfl) (as := [mI _]) rfl rfl T (fun v1 h2 T => ?_)
  obtain ⟨z, T1, T2⟩ := T
  refine mw_if_eq 50 (dT d7_step 6 rfl) (by decide) z (fun z => ?_) (fun z => ?_)
  · have T := T1 z
    refine mw_ldc2 kl_X7_307 (dT d7_step 30 rfl) ?_
    exact mw_lret rfl (dT d7_step 31 rfl) ⟨_, rfl, T⟩
  · have T := T2 z
    refine mw_iload_n (dT d7_step 7 rfl) rfl ?_
    obtain ⟨z, T1, T2⟩ := T
    refine mw_if_lt 50 (dT d7_step 8 rfl) (by decide) z (fun z => ?_) (fun z => ?_)
    · have T := T1 z
      refine mw_ldc2 kl_X7_307 (dT d7_step 30 rfl) ?_
      exact mw_lret rfl (dT d7_step 31 rfl) ⟨_, rfl, T⟩
    · have T := T2 z
      refine mw_iload_n (dT d7_step 9 rfl) rfl ?_
      refine mw_aload_n (dT d7_step 10 rfl) rfl (by decide) ?_
      refine mw_callVI mv_7_factors ml_X7_193 (by decide) (dT d7_step 11 rfl) (as := []) rfl rfl T (fun v2 h3 T => ?_)
      obtain ⟨z, T1, T2⟩ := T
      refine mw_icmp_gt 50 (dT d7_step 12 rfl) (by decide) z (fun z => ?_) (fun z => ?_)
      · have T := T1 z
        refine mw_ldc2 kl_X7_307 (dT d7_step 30 rfl) ?_
        exact mw_lret rfl (dT d7_step 31 rfl) ⟨_, rfl, T⟩
      · have T := T2 z
        refine mw_aload_n (dT d7_step 13 rfl) rfl (by decide) ?_
        refine mw_aload_n (dT d7_step 14 rfl) rfl (by decide) ?_
        refine mw_getR fl_X7_45 (dT d7_step 15 rfl) ?_
        refine mw_bipush (by decide) (dT d7_step 16 rfl) ?_
        refine mw_iload_n (dT d7_step 17 rfl) rfl ?_
        refine mw_imul (dT d7_step 18 rfl) ?_
        refine mw_iconst (dT d7_step 19 rfl) ?_
        refine mw_iadd (dT d7_step 20 rfl) ?_
        obtain ⟨z, T⟩ := T
        refine mw_iaload ro_41 (dT d7_step 21 rfl) z ?_
        refine mw_bipush (by decide) (dT d7_step 22 rfl) ?_
        refine mw_iload_n (dT d7_step 23 rfl) rfl ?_
        refine mw_imul (dT d7_step 24 rfl) ?_
        refine mw_iconst (dT d7_step 25 rfl) ?_
        refine mw_iadd (dT d7_step 26 rfl) ?_
        refine mw_iload_n (dT d7_step 27 rfl) rfl ?_
        refine mw_callVJ mv_7_premiumBehind ml_X7_216 (by decide) (dT d7_step 28 rfl) (as := [mI _, mI _, mI _]) rfl rfl T (fun v3 h4 T => ?_)
        refine mw_goto 53 (dT d7_step 29 rfl) (by decide) ?_
        exact mw_lret rfl (dT d7_step 31 rfl) ⟨_, rfl, T⟩
abbrev A7_swing_60 (K : Int → mH → Prop) (x1 x2 x3 x4 x5 x6 x7 x9 : Int) (h : mH) : Prop := At (mPI K) M7_swing 60 [mR 30 0, mI x1, mI x2, mI x3, mI x4, mI x5, mI x6, mJ x7, mU, mI x9, mU, mU] [] h
theorem s7_swing_60 {K : Int → mH → Prop} {x1 x2 x3 x4 x5 x6 x7 x9 : Int} {h : mH} (T : (0 ≤ x2 ∧ x2 < 8) ∧ ((mInR x9 ∧ mInR (h 35 0 x2)) ∧ ((h 35 0 x2) ≤ x9 → ((0 ≤ ((x4 + 3) + x2) ∧ ((x4 + 3) + x2) < 314) ∧ (∀ h1 : mH, h1 = mSet h 41 0 ((x4 + 3) + x2) x5 → (K x6 h1)))) ∧ (¬ (h 35 0 x2) ≤ x9 → ((0 ≤ ((x4 + 3) + x2) ∧ ((x4 + 3) + x2) < 314) ∧ (∀ h2 : mH, h2 = mSet h 41 0 ((x4 + 3) + x2) x9 → (OkJ M7_premiumOf [mR 30 0, mI x1] h2 (fun v1 h3 => (mInR x6) ∧ (x6 = ((-1)) → (A7_swing_60 K x1 x2 x3 x4 x5 x9 v1 (x9 + 1) h3)) ∧ (¬ x6 = ((-1)) → ((mInR x3) ∧ (¬ x3 = 0 → ((mInL v1 ∧ mInL x7) ∧ (v1 < x7 → (A7_swing_60 K x1 x2 x3 x4 x5 x9 v1 (x9 + 1) h3)) ∧ (¬ v1 < x7 → (A7_swing_60 K x1 x2 x3 x4 x5 x6 x7 (x9 + 1) h3)))) ∧ (x3 = 0 → ((mInL v1 ∧ mInL x7) ∧ (x7 < v1 → (A7_swing_60 K x1 x2 x3 x4 x5 x9 v1 (x9 + 1) h3)) ∧ (¬ x7 < v1 → (A7_swing_60 K x1 x2 x3 x4 x5 x6 x7 (x9 + 1) h3))))))))))))) : A7_swing_60 K x1 x2 x3 x4 x5 x6 x7 x9 h := by
  refine mw_iload (dT d7_swing 37 rfl) rfl ?_
  refine mw_aload_n (dT d7_swing 38 rfl) rfl (by decide) ?_
  refine mw_getR fl_X7_23 (dT d7_swing 39 rfl) ?_
  refine mw_iload_n (dT d7_swing 40 rfl) rfl ?_
  obtain ⟨z, T⟩ := T
  refine mw_iaload ro_35 (dT d7_swing 41 rfl) z ?_
  obtain ⟨z, T1, T2⟩ := T
  refine mw_icmp_ge 137 (dT d7_swing 42 rfl) (by decide) z (fun z => ?_) (fun z => ?_)
  · have T := T1 z
    refine mw_aload_n (dT d7_swing 77 rfl) rfl (by decide) ?_
    refine mw_getR fl_X7_45 (dT d7_swing 78 rfl) ?_
    refine mw_iload (dT d7_swing 79 rfl) rfl ?_
    refine mw_iconst (dT d7_swing 80 rfl) ?_
    refine mw_iadd (dT d7_swing 81 rfl) ?_
    refine mw_iload_n (dT d7_swing 82 rfl) rfl ?_
    refine mw_iadd (dT d7_swing 83 rfl) ?_
    refine mw_iload (dT d7_swing 84 rfl) rfl ?_
    obtain ⟨z, T⟩ := T
    have T := T _ rfl
    refine mw_iastore ro_41 (dT d7_swing 85 rfl) z ?_
    refine mw_iload (dT d7_swing 86 rfl) rfl ?_
    exact mw_iret rfl (dT d7_swing 87 rfl) ⟨_, rfl, T⟩
  · have T := T2 z
    refine mw_aload_n (dT d7_swing 43 rfl) rfl (by decide) ?_
    refine mw_getR fl_X7_45 (dT d7_swing 44 rfl) ?_
    refine mw_iload (dT d7_swing 45 rfl) rfl ?_
    refine mw_iconst (dT d7_swing 46 rfl) ?_
    refine mw_iadd (dT d7_swing 47 rfl) ?_
    refine mw_iload_n (dT d7_swing 48 rfl) rfl ?_
    refine mw_iadd (dT d7_swing 49 rfl) ?_
    refine mw_iload (dT d7_swing 50 rfl) rfl ?_
    obtain ⟨z, T⟩ := T
    have T := T _ rfl
    refine mw_iastore ro_41 (dT d7_swing 51 rfl) z ?_
    refine mw_aload_n (dT d7_swing 52 rfl) rfl (by decide) ?_
    refine mw_iload_n (dT d7_swing 53 rfl) rfl ?_
    refine mw_callVJ mv_7_premiumOf ml_X7_235 (by decide) (dT d7_swing 54 rfl) (as := [mI _]) rfl rfl T (fun v1 h3 T => ?_)
    refine mw_lstore (dT d7_swing 55 rfl) (by decide) ?_
    refine mw_iload (dT d7_swing 56 rfl) rfl ?_
    refine mw_iconst (dT d7_swing 57 rfl) ?_
    obtain ⟨z, T1, T2⟩ := T
    refine mw_icmp_eq 123 (dT d7_swing 58 rfl) (by decide) ⟨z, by decide⟩ (fun z => ?_) (fun z => ?_)
    · have T := T1 z
      refine mw_iload (dT d7_swing 71 rfl) rfl ?_
      refine mw_istore (dT d7_swing 72 rfl) (by decide) ?_
      refine mw_lload (dT d7_swing 73 rfl) rfl ?_
      refine mw_lstore (dT d7_swing 74 rfl) (by decide) ?_
      refine mw_iinc (dT d7_swing 75 rfl) rfl (by decide) ?_
      refine mw_goto 60 (dT d7_swing 76 rfl) (by decide) ?_
      exact At.forget [10] T
    · have T := T2 z
      refine mw_iload_n (dT d7_swing 59 rfl) rfl ?_
      obtain ⟨z, T1, T2⟩ := T
      refine mw_if_ne 112 (dT d7_swing 60 rfl) (by decide) z (fun z => ?_) (fun z => ?_)
      · have T := T1 z
        refine mw_lload (dT d7_swing 66 rfl) rfl ?_
        refine mw_lload (dT d7_swing 67 rfl) rfl ?_
        obtain ⟨z, T1, T2⟩ := T
        refine mw_lif_lt 123 (dT d7_swing 68 rfl) (dT d7_swing 69 rfl) (by decide) z (fun z => ?_) (fun z => ?_)
        · have T := T1 z
          refine mw_iload (dT d7_swing 71 rfl) rfl ?_
          refine mw_istore (dT d7_swing 72 rfl) (by decide) ?_
          refine mw_lload (dT d7_swing 73 rfl) rfl ?_
          refine mw_lstore (dT d7_swing 74 rfl) (by decide) ?_
          refine mw_iinc (dT d7_swing 75 rfl) rfl (by decide) ?_
          refine mw_goto 60 (dT d7_swing 76 rfl) (by decide) ?_
          exact At.forget [10] T
        · have T := T2 z
          refine mw_goto 131 (dT d7_swing 70 rfl) (by decide) ?_
          refine mw_iinc (dT d7_swing 75 rfl) rfl (by decide) ?_
          refine mw_goto 60 (dT d7_swing 76 rfl) (by decide) ?_
          exact At.forget [10] T
      · have T := T2 z
        refine mw_lload (dT d7_swing 61 rfl) rfl ?_
        refine mw_lload (dT d7_swing 62 rfl) rfl ?_
        obtain ⟨z, T1, T2⟩ := T
        refine mw_lif_gt 123 (dT d7_swing 63 rfl) (dT d7_swing 64 rfl) (by decide) z (fun z => ?_) (fun z => ?_)
        · have T := T1 z
          refine mw_iload (dT d7_swing 71 rfl) rfl ?_
          refine mw_istore (dT d7_swing 72 rfl) (by decide) ?_
          refine mw_lload (dT d7_swing 73 rfl) rfl ?_
          refine mw_lstore (dT d7_swing 74 rfl) (by decide) ?_
          refine mw_iinc (dT d7_swing 75 rfl) rfl (by decide) ?_
          refine mw_goto 60 (dT d7_swing 76 rfl) (by decide) ?_
          exact At.forget [10] T
        · have T := T2 z
          refine mw_goto 131 (dT d7_swing 65 rfl) (by decide) ?_
          refine mw_iinc (dT d7_swing 75 rfl) rfl (by decide) ?_
          refine mw_goto 60 (dT d7_swing 76 rfl) (by decide) ?_
          exact At.forget [10] T
theorem s7_swing {K : Int → mH → Prop} {x1 : Int} {x2 : Int} {x3 : Int} {h : mH} (T : ∀ h1 : mH, h1 = mSet h 30 0 0 0 → (OkI M7_isRisk [mR 30 0, mI x1] h1 (fun v1 h2 => (mInR v1) ∧ (v1 = 0 → (K ((-1)) h2)) ∧ (¬ v1 = 0 → (OkI M7_isFactor [mR 30 0, mI x2] h2 (fun v2 h3 => (mInR v2) ∧ (v2 = 0 → (K ((-1)) h3)) ∧ (¬ v2 = 0 → ((mInR x3) ∧ (x3 < 0 → (K ((-1)) h3)) ∧ (¬ x3 < 0 → ((mInR x3) ∧ (x3 ≤ 1 → ((0 ≤ (((7 * x1) + 3) + x2) ∧ (((7 * x1) + 3) + x2) < 314) ∧ (A7_swing_60 K x1 x2 x3 (7 * x1) (h3 41 0 (((7 * x1) + 3) + x2)) ((-1)) 0 0 h3))) ∧ (¬ x3 ≤ 1 → (K ((-1)) h3)))))))))))) : OkI M7_swing [mR 30 0, mI x1, mI x2, mI x3] h K := by
  refine Ok.of rfl (n := 8) rfl ?_
  show At (mPI K) M7_swing 0 [mR 30 0, mI x1, mI x2, mI x3, mU, mU, mU, mU, mU, mU, mU, mU] [] h
  refine mw_aload_n (dT d7_swing 0 rfl) rfl (by decide) ?_
  refine mw_iconst (dT d7_swing 1 rfl) ?_
  have T := T _ rfl
  refine mw_putI fp_X7_69 (dT d7_swing 2 rfl) ?_
  refine mw_aload_n (dT d7_swing 3 rfl) rfl (by decide) ?_
  refine mw_iload_n (dT d7_swing 4 rfl) rfl ?_
  refine mw_callVI mv_7_isRisk ml_X7_295 (by decide) (dT d7_swing 5 rfl) (as := [mI _]) rfl rfl T (fun v1 h2 T => ?_)
  obtain ⟨z, T1, T2⟩ := T
  refine mw_if_eq 30 (dT d7_swing 6 rfl) (by decide) z (fun z => ?_) (fun z => ?_)
  · have T := T1 z
    refine mw_iconst (dT d7_swing 16 rfl) ?_
    exact mw_iret rfl (dT d7_swing 17 rfl) ⟨_, rfl, T⟩
  · have T := T2 z
    refine mw_aload_n (dT d7_swing 7 rfl) rfl (by decide) ?_
    refine mw_iload_n (dT d7_swing 8 rfl) rfl ?_
    refine mw_callVI mv_7_isFactor ml_X7_203 (by decide) (dT d7_swing 9 rfl) (as := [mI _]) rfl rfl T (fun v2 h3 T => ?_)
    obtain ⟨z, T1, T2⟩ := T
    refine mw_if_eq 30 (dT d7_swing 10 rfl) (by decide) z (fun z => ?_) (fun z => ?_)
    · have T := T1 z
      refine mw_iconst (dT d7_swing 16 rfl) ?_
      exact mw_iret rfl (dT d7_swing 17 rfl) ⟨_, rfl, T⟩
    · have T := T2 z
      refine mw_iload_n (dT d7_swing 11 rfl) rfl ?_
      obtain ⟨z, T1, T2⟩ := T
      refine mw_if_lt 30 (dT d7_swing 12 rfl) (by decide) z (fun z => ?_) (fun z => ?_)
      · have T := T1 z
        refine mw_iconst (dT d7_swing 16 rfl) ?_
        exact mw_iret rfl (dT d7_swing 17 rfl) ⟨_, rfl, T⟩
      · have T := T2 z
        refine mw_iload_n (dT d7_swing 13 rfl) rfl ?_
        refine mw_iconst (dT d7_swing 14 rfl) ?_
        obtain ⟨z, T1, T2⟩ := T
        refine mw_icmp_le 32 (dT d7_swing 15 rfl) (by decide) ⟨z, by decide⟩ (fun z => ?_) (fun z => ?_)
        · have T := T1 z
          refine mw_bipush (by decide) (dT d7_swing 18 rfl) ?_
          refine mw_iload_n (dT d7_swing 19 rfl) rfl ?_
          refine mw_imul (dT d7_swing 20 rfl) ?_
          refine mw_istore (dT d7_swing 21 rfl) (by decide) ?_
          refine mw_aload_n (dT d7_swing 22 rfl) rfl (by decide) ?_
          refine mw_getR fl_X7_45 (dT d7_swing 23 rfl) ?_
          refine mw_iload (dT d7_swing 24 rfl) rfl ?_
          refine mw_iconst (dT d7_swing 25 rfl) ?_
          refine mw_iadd (dT d7_swing 26 rfl) ?_
          refine mw_iload_n (dT d7_swing 27 rfl) rfl ?_
          refine mw_iadd (dT d7_swing 28 rfl) ?_
          obtain ⟨z, T⟩ := T
          refine mw_iaload ro_41 (dT d7_swing 29 rfl) z ?_
          refine mw_istore (dT d7_swing 30 rfl) (by decide) ?_
          refine mw_iconst (dT d7_swing 31 rfl) ?_
          refine mw_istore (dT d7_swing 32 rfl) (by decide) ?_
          refine mw_lconst (dT d7_swing 33 rfl) ?_
          refine mw_lstore (dT d7_swing 34 rfl) (by decide) ?_
          refine mw_iconst (dT d7_swing 35 rfl) ?_
          refine mw_istore (dT d7_swing 36 rfl) (by decide) ?_
          exact T
        · have T := T2 z
          refine mw_iconst (dT d7_swing 16 rfl) ?_
          exact mw_iret rfl (dT d7_swing 17 rfl) ⟨_, rfl, T⟩
theorem s7_ratio {K : Int → mH → Prop} {x1 : Int} {x2 : Int} {h : mH} (T : ∀ h1 : mH, h1 = mSet h 30 0 0 0 → (OkI M7_isLevel [mR 30 0, mI x1, mI x2] h1 (fun v1 h2 => (mInR v1) ∧ (¬ v1 = 0 → (OkJ M7_premiumsOf [mR 30 0, mI x1, mI x2] h2 (fun v2 h3 => (mInL v2) ∧ (¬ v2 = 0 → (OkJ M7_sumOf [mR 30 0, mI x1, mI x2, mI 1] h3 (fun v3 h4 => (mInL (v3 * 1000) ∧ mInL v2 ∧ v2 ≠ 0) ∧ (K (Int.tdiv (v3 * 1000) v2) h4)))) ∧ (v2 = 0 → (K ((-2)) h3))))) ∧ (v1 = 0 → (K ((-1)) h2))))) : OkJ M7_ratio [mR 30 0, mI x1, mI x2] h K := by
  refine Ok.of rfl (n := 2) rfl ?_
  show At (mPJ K) M7_ratio 0 [mR 30 0, mI x1, mI x2, mU, mU] [] h
  refine mw_aload_n (dT d7_ratio 0 rfl) rfl (by decide) ?_
  refine mw_iconst (dT d7_ratio 1 rfl) ?_
  have T := T _ rfl
  refine mw_putI fp_X7_69 (dT d7_ratio 2 rfl) ?_
  refine mw_aload_n (dT d7_ratio 3 rfl) rfl (by decide) ?_
  refine mw_iload_n (dT d7_ratio 4 rfl) rfl ?_
  refine mw_iload_n (dT d7_ratio 5 rfl) rfl ?_
  refine mw_callVI mv_7_isLevel ml_X7_292 (by decide) (dT d7_ratio 6 rfl) (as := [mI _, mI _]) rfl rfl T (fun v1 h2 T => ?_)
  obtain ⟨z, T1, T2⟩ := T
  refine mw_if_ne 18 (dT d7_ratio 7 rfl) (by decide) z (fun z => ?_) (fun z => ?_)
  · have T := T1 z
    refine mw_aload_n (dT d7_ratio 10 rfl) rfl (by decide) ?_
    refine mw_iload_n (dT d7_ratio 11 rfl) rfl ?_
    refine mw_iload_n (dT d7_ratio 12 rfl) rfl ?_
    refine mw_callVJ mv_7_premiumsOf ml_X7_245 (by decide) (dT d7_ratio 13 rfl) (as := [mI _, mI _]) rfl rfl T (fun v2 h3 T => ?_)
    refine mw_lstore_n (dT d7_ratio 14 rfl) (by decide) ?_
    refine mw_lload_n (dT d7_ratio 15 rfl) rfl ?_
    refine mw_lconst (dT d7_ratio 16 rfl) ?_
    obtain ⟨z, T1, T2⟩ := T
    refine mw_lif_ne 37 (dT d7_ratio 17 rfl) (dT d7_ratio 18 rfl) (by decide) ⟨z, by decide⟩ (fun z => ?_) (fun z => ?_)
    · have T := T1 z
      refine mw_aload_n (dT d7_ratio 21 rfl) rfl (by decide) ?_
      refine mw_iload_n (dT d7_ratio 22 rfl) rfl ?_
      refine mw_iload_n (dT d7_ratio 23 rfl) rfl ?_
      refine mw_iconst (dT d7_ratio 24 rfl) ?_
      refine mw_callVJ mv_7_sumOf ml_X7_242 (by decide) (dT d7_ratio 25 rfl) (as := [mI _, mI _, mI _]) rfl rfl T (fun v3 h4 T => ?_)
      refine mw_ldc2 kl_X7_220 (dT d7_ratio 26 rfl) ?_
      refine mw_lmul (dT d7_ratio 27 rfl) ?_
      refine mw_lload_n (dT d7_ratio 28 rfl) rfl ?_
      obtain ⟨z, T⟩ := T
      refine mw_ldiv (dT d7_ratio 29 rfl) z ?_
      exact mw_lret rfl (dT d7_ratio 30 rfl) ⟨_, rfl, T⟩
    · have T := T2 z
      refine mw_ldc2 kl_X7_317 (dT d7_ratio 19 rfl) ?_
      refine mw_goto 50 (dT d7_ratio 20 rfl) (by decide) ?_
      exact mw_lret rfl (dT d7_ratio 30 rfl) ⟨_, rfl, T⟩
  · have T := T2 z
    refine mw_ldc2 kl_X7_307 (dT d7_ratio 8 rfl) ?_
    exact mw_lret rfl (dT d7_ratio 9 rfl) ⟨_, rfl, T⟩
theorem s7_share {K : Int → mH → Prop} {x1 : Int} {x2 : Int} {h : mH} (T : ∀ h1 : mH, h1 = mSet h 30 0 0 0 → (OkI M7_isLevel [mR 30 0, mI x1, mI x2] h1 (fun v1 h2 => (mInR v1) ∧ (¬ v1 = 0 → (OkJ M7_paid [mR 30 0] h2 (fun v2 h3 => (mInL v2) ∧ (¬ v2 = 0 → (OkJ M7_premiumsOf [mR 30 0, mI x1, mI x2] h3 (fun v3 h4 => (mInL (v3 * 1000) ∧ mInL v2 ∧ v2 ≠ 0) ∧ (K (Int.tdiv (v3 * 1000) v2) h4)))) ∧ (v2 = 0 → (K ((-2)) h3))))) ∧ (v1 = 0 → (K ((-1)) h2))))) : OkI M7_share [mR 30 0, mI x1, mI x2] h K := by
  refine Ok.of rfl (n := 2) rfl ?_
  show At (mPI K) M7_share 0 [mR 30 0, mI x1, mI x2, mU, mU] [] h
  refine mw_aload_n (dT d7_share 0 rfl) rfl (by decide) ?_
  refine mw_iconst (dT d7_share 1 rfl) ?_
  have T := T _ rfl
  refine mw_putI fp_X7_69 (dT d7_share 2 rfl) ?_
  refine mw_aload_n (dT d7_share 3 rfl) rfl (by decide) ?_
  refine mw_iload_n (dT d7_share 4 rfl) rfl ?_
  refine mw_iload_n (dT d7_share 5 rfl) rfl ?_
  refine mw_callVI mv_7_isLevel ml_X7_292 (by decide) (dT d7_share 6 rfl) (as := [mI _, mI _]) rfl rfl T (fun v1 h2 T => ?_)
  obtain ⟨z, T1, T2⟩ := T
  refine mw_if_ne 16 (dT d7_share 7 rfl) (by decide) z (fun z => ?_) (fun z => ?_)
  · have T := T1 z
    refine mw_aload_n (dT d7_share 10 rfl) rfl (by decide) ?_
    refine mw_callVJ mv_7_paid ml_X7_269 (by decide) (dT d7_share 11 rfl) (as := []) rfl rfl T (fun v2 h3 T => ?_)
    refine mw_lstore_n (dT d7_share 12 rfl) (by decide) ?_
    refine mw_lload_n (dT d7_share 13 rfl) rfl ?_
    refine mw_lconst (dT d7_share 14 rfl) ?_
    obtain ⟨z, T1, T2⟩ := T
    refine mw_lif_ne 32 (dT d7_share 15 rfl) (dT d7_share 16 rfl) (by decide) ⟨z, by decide⟩ (fun z => ?_) (fun z => ?_)
    · have T := T1 z
      refine mw_aload_n (dT d7_share 19 rfl) rfl (by decide) ?_
      refine mw_iload_n (dT d7_share 20 rfl) rfl ?_
      refine mw_iload_n (dT d7_share 21 rfl) rfl ?_
      refine mw_callVJ mv_7_premiumsOf ml_X7_245 (by decide) (dT d7_share 22 rfl) (as := [mI _, mI _]) rfl rfl T (fun v3 h4 T => ?_)
      refine mw_ldc2 kl_X7_220 (dT d7_share 23 rfl) ?_
      refine mw_lmul (dT d7_share 24 rfl) ?_
      refine mw_lload_n (dT d7_share 25 rfl) rfl ?_
      obtain ⟨z, T⟩ := T
      refine mw_ldiv (dT d7_share 26 rfl) z ?_
      refine mw_l2i (dT d7_share 27 rfl) ?_
      exact mw_iret rfl (dT d7_share 28 rfl) ⟨_, rfl, T⟩
    · have T := T2 z
      refine mw_bipush (by decide) (dT d7_share 17 rfl) ?_
      refine mw_goto 45 (dT d7_share 18 rfl) (by decide) ?_
      exact mw_iret rfl (dT d7_share 28 rfl) ⟨_, rfl, T⟩
  · have T := T2 z
    refine mw_iconst (dT d7_share 8 rfl) ?_
    exact mw_iret rfl (dT d7_share 9 rfl) ⟨_, rfl, T⟩
abbrev A7_atEnd_29 (K : Int → mH → Prop) (x1 x2 x3 x4 : Int) (h : mH) : Prop := At (mPI K) M7_atEnd 29 [mR 30 0, mI x1, mI x2, mI x3, mI x4] [] h
theorem s7_atEnd_29 {K : Int → mH → Prop} {x1 x2 x3 x4 : Int} {h : mH} (T : (0 ≤ x1 ∧ x1 < 8) ∧ ((mInR x4 ∧ mInR (h 35 0 x1)) ∧ ((h 35 0 x1) ≤ x4 → (K x3 h)) ∧ (¬ (h 35 0 x1) ≤ x4 → (OkI M7_firstOf [mR 30 0, mI x1, mI x4] h (fun v1 h1 => (mInR v1 ∧ mInR x4) ∧ (¬ v1 = x4 → (A7_atEnd_29 K x1 x2 (x3 + 0) (x4 + 1) h1)) ∧ (v1 = x4 → (OkI M7_relativityOf [mR 30 0, mI x1, mI x4] h1 (fun v2 h2 => (mInR x2) ∧ (¬ x2 = 0 → ((0 ≤ x1 ∧ x1 < 8) ∧ ((mInR v2 ∧ mInR (h2 37 0 x1)) ∧ (¬ v2 = (h2 37 0 x1) → (A7_atEnd_29 K x1 x2 (x3 + 0) (x4 + 1) h2)) ∧ (v2 = (h2 37 0 x1) → (A7_atEnd_29 K x1 x2 (x3 + 1) (x4 + 1) h2))))) ∧ (x2 = 0 → ((0 ≤ x1 ∧ x1 < 8) ∧ ((mInR v2 ∧ mInR (h2 36 0 x1)) ∧ (¬ v2 = (h2 36 0 x1) → (A7_atEnd_29 K x1 x2 (x3 + 0) (x4 + 1) h2)) ∧ (v2 = (h2 36 0 x1) → (A7_atEnd_29 K x1 x2 (x3 + 1) (x4 + 1) h2))))))))))))) : A7_atEnd_29 K x1 x2 x3 x4 h := by
  refine mw_iload (dT d7_atEnd 18 rfl) rfl ?_
  refine mw_aload_n (dT d7_atEnd 19 rfl) rfl (by decide) ?_
  refine mw_getR fl_X7_23 (dT d7_atEnd 20 rfl) ?_
  refine mw_iload_n (dT d7_atEnd 21 rfl) rfl ?_
  obtain ⟨z, T⟩ := T
  refine mw_iaload ro_35 (dT d7_atEnd 22 rfl) z ?_
  obtain ⟨z, T1, T2⟩ := T
  refine mw_icmp_ge 95 (dT d7_atEnd 23 rfl) (by decide) z (fun z => ?_) (fun z => ?_)
  · have T := T1 z
    refine mw_iload_n (dT d7_atEnd 54 rfl) rfl ?_
    exact mw_iret rfl (dT d7_atEnd 55 rfl) ⟨_, rfl, T⟩
  · have T := T2 z
    refine mw_iload_n (dT d7_atEnd 24 rfl) rfl ?_
    refine mw_aload_n (dT d7_atEnd 25 rfl) rfl (by decide) ?_
    refine mw_iload_n (dT d7_atEnd 26 rfl) rfl ?_
    refine mw_iload (dT d7_atEnd 27 rfl) rfl ?_
    refine mw_callVI mv_7_firstOf ml_X7_210 (by decide) (dT d7_atEnd 28 rfl) (as := [mI _, mI _]) rfl rfl T (fun v1 h1 T => ?_)
    refine mw_iload (dT d7_atEnd 29 rfl) rfl ?_
    obtain ⟨z, T1, T2⟩ := T
    refine mw_icmp_ne 86 (dT d7_atEnd 30 rfl) (by decide) z (fun z => ?_) (fun z => ?_)
    · have T := T1 z
      refine mw_iconst (dT d7_atEnd 49 rfl) ?_
      refine mw_iadd (dT d7_atEnd 50 rfl) ?_
      refine mw_istore_n (dT d7_atEnd 51 rfl) (by decide) ?_
      refine mw_iinc (dT d7_atEnd 52 rfl) rfl (by decide) ?_
      refine mw_goto 29 (dT d7_atEnd 53 rfl) (by decide) ?_
      exact T
    · have T := T2 z
      refine mw_aload_n (dT d7_atEnd 31 rfl) rfl (by decide) ?_
      refine mw_iload_n (dT d7_atEnd 32 rfl) rfl ?_
      refine mw_iload (dT d7_atEnd 33 rfl) rfl ?_
      refine mw_callVI mv_7_relativityOf ml_X7_222 (by decide) (dT d7_atEnd 34 rfl) (as := [mI _, mI _]) rfl rfl T (fun v2 h2 T => ?_)
      refine mw_iload_n (dT d7_atEnd 35 rfl) rfl ?_
      obtain ⟨z, T1, T2⟩ := T
      refine mw_if_ne 73 (dT d7_atEnd 36 rfl) (by decide) z (fun z => ?_) (fun z => ?_)
      · have T := T1 z
        refine mw_aload_n (dT d7_atEnd 42 rfl) rfl (by decide) ?_
        refine mw_getR fl_X7_29 (dT d7_atEnd 43 rfl) ?_
        refine mw_iload_n (dT d7_atEnd 44 rfl) rfl ?_
        obtain ⟨z, T⟩ := T
        refine mw_iaload ro_37 (dT d7_atEnd 45 rfl) z ?_
        obtain ⟨z, T1, T2⟩ := T
        refine mw_icmp_ne 86 (dT d7_atEnd 46 rfl) (by decide) z (fun z => ?_) (fun z => ?_)
        · have T := T1 z
          refine mw_iconst (dT d7_atEnd 49 rfl) ?_
          refine mw_iadd (dT d7_atEnd 50 rfl) ?_
          refine mw_istore_n (dT d7_atEnd 51 rfl) (by decide) ?_
          refine mw_iinc (dT d7_atEnd 52 rfl) rfl (by decide) ?_
          refine mw_goto 29 (dT d7_atEnd 53 rfl) (by decide) ?_
          exact T
        · have T := T2 z
          refine mw_iconst (dT d7_atEnd 47 rfl) ?_
          refine mw_goto 87 (dT d7_atEnd 48 rfl) (by decide) ?_
          refine mw_iadd (dT d7_atEnd 50 rfl) ?_
          refine mw_istore_n (dT d7_atEnd 51 rfl) (by decide) ?_
          refine mw_iinc (dT d7_atEnd 52 rfl) rfl (by decide) ?_
          refine mw_goto 29 (dT d7_atEnd 53 rfl) (by decide) ?_
          exact T
      · have T := T2 z
        refine mw_aload_n (dT d7_atEnd 37 rfl) rfl (by decide) ?_
        refine mw_getR fl_X7_26 (dT d7_atEnd 38 rfl) ?_
        refine mw_iload_n (dT d7_atEnd 39 rfl) rfl ?_
        obtain ⟨z, T⟩ := T
        refine mw_iaload ro_36 (dT d7_atEnd 40 rfl) z ?_
        refine mw_goto 79 (dT d7_atEnd 41 rfl) (by decide) ?_
        obtain ⟨z, T1, T2⟩ := T
        refine mw_icmp_ne 86 (dT d7_atEnd 46 rfl) (by decide) z (fun z => ?_) (fun z => ?_)
        · have T := T1 z
          refine mw_iconst (dT d7_atEnd 49 rfl) ?_
          refine mw_iadd (dT d7_atEnd 50 rfl) ?_
          refine mw_istore_n (dT d7_atEnd 51 rfl) (by decide) ?_
          refine mw_iinc (dT d7_atEnd 52 rfl) rfl (by decide) ?_
          refine mw_goto 29 (dT d7_atEnd 53 rfl) (by decide) ?_
          exact T
        · have T := T2 z
          refine mw_iconst (dT d7_atEnd 47 rfl) ?_
          refine mw_goto 87 (dT d7_atEnd 48 rfl) (by decide) ?_
          refine mw_iadd (dT d7_atEnd 50 rfl) ?_
          refine mw_istore_n (dT d7_atEnd 51 rfl) (by decide) ?_
          refine mw_iinc (dT d7_atEnd 52 rfl) rfl (by decide) ?_
          refine mw_goto 29 (dT d7_atEnd 53 rfl) (by decide) ?_
          exact T
theorem s7_atEnd {K : Int → mH → Prop} {x1 : Int} {x2 : Int} {h : mH} (T : ∀ h1 : mH, h1 = mSet h 30 0 0 0 → (OkI M7_isFactor [mR 30 0, mI x1] h1 (fun v1 h2 => (mInR v1) ∧ (v1 = 0 → (K ((-1)) h2)) ∧ (¬ v1 = 0 → ((mInR x2) ∧ (x2 < 0 → (K ((-1)) h2)) ∧ (¬ x2 < 0 → ((mInR x2) ∧ (x2 ≤ 1 → (A7_atEnd_29 K x1 x2 0 0 h2)) ∧ (¬ x2 ≤ 1 → (K ((-1)) h2))))))))) : OkI M7_atEnd [mR 30 0, mI x1, mI x2] h K := by
  refine Ok.of rfl (n := 2) rfl ?_
  show At (mPI K) M7_atEnd 0 [mR 30 0, mI x1, mI x2, mU, mU] [] h
  refine mw_aload_n (dT d7_atEnd 0 rfl) rfl (by decide) ?_
  refine mw_iconst (dT d7_atEnd 1 rfl) ?_
  have T := T _ rfl
  refine mw_putI fp_X7_69 (dT d7_atEnd 2 rfl) ?_
  refine mw_aload_n (dT d7_atEnd 3 rfl) rfl (by decide) ?_
  refine mw_iload_n (dT d7_atEnd 4 rfl) rfl ?_
  refine mw_callVI mv_7_isFactor ml_X7_203 (by decide) (dT d7_atEnd 5 rfl) (as := [mI _]) rfl rfl T (fun v1 h2 T => ?_)
  obtain ⟨z, T1, T2⟩ := T
  refine mw_if_eq 22 (dT d7_atEnd 6 rfl) (by decide) z (fun z => ?_) (fun z => ?_)
  · have T := T1 z
    refine mw_iconst (dT d7_atEnd 12 rfl) ?_
    exact mw_iret rfl (dT d7_atEnd 13 rfl) ⟨_, rfl, T⟩
  · have T := T2 z
    refine mw_iload_n (dT d7_atEnd 7 rfl) rfl ?_
    obtain ⟨z, T1, T2⟩ := T
    refine mw_if_lt 22 (dT d7_atEnd 8 rfl) (by decide) z (fun z => ?_) (fun z => ?_)
    · have T := T1 z
      refine mw_iconst (dT d7_atEnd 12 rfl) ?_
      exact mw_iret rfl (dT d7_atEnd 13 rfl) ⟨_, rfl, T⟩
    · have T := T2 z
      refine mw_iload_n (dT d7_atEnd 9 rfl) rfl ?_
      refine mw_iconst (dT d7_atEnd 10 rfl) ?_
      obtain ⟨z, T1, T2⟩ := T
      refine mw_icmp_le 24 (dT d7_atEnd 11 rfl) (by decide) ⟨z, by decide⟩ (fun z => ?_) (fun z => ?_)
      · have T := T1 z
        refine mw_iconst (dT d7_atEnd 14 rfl) ?_
        refine mw_istore_n (dT d7_atEnd 15 rfl) (by decide) ?_
        refine mw_iconst (dT d7_atEnd 16 rfl) ?_
        refine mw_istore (dT d7_atEnd 17 rfl) (by decide) ?_
        exact T
      · have T := T2 z
        refine mw_iconst (dT d7_atEnd 12 rfl) ?_
        exact mw_iret rfl (dT d7_atEnd 13 rfl) ⟨_, rfl, T⟩
abbrev A7_mostOff_29 (K : Int → mH → Prop) (x1 x2 x4 x5 : Int) (h : mH) : Prop := At (mPI K) M7_mostOff 29 [mR 30 0, mI x1, mJ x2, mU, mI x4, mI x5] [] h
theorem s7_mostOff_29 {K : Int → mH → Prop} {x1 x2 x4 x5 : Int} {h : mH} (T : (mInR x5) ∧ (x5 < 0 → (∀ h1 : mH, h1 = mSet h 41 0 313 x1 → (K x4 h1))) ∧ (¬ x5 < 0 → ((mInR x4) ∧ (¬ x4 = ((-2)) → (∀ h2 : mH, h2 = mSet h 41 0 313 x1 → (K x4 h2))) ∧ (x4 = ((-2)) → (∀ h3 : mH, h3 = mSet h 41 0 313 x5 → (OkJ M7_paid [mR 30 0] h3 (fun v1 h4 => (mInL v1 ∧ mInL x2) ∧ (v1 < x2 → (A7_mostOff_29 K x1 x2 x4 (x5 + (-1)) h4)) ∧ (¬ v1 < x2 → (A7_mostOff_29 K x1 x2 x5 (x5 + (-1)) h4))))))))) : A7_mostOff_29 K x1 x2 x4 x5 h := by
  refine mw_iload (dT d7_mostOff 16 rfl) rfl ?_
  obtain ⟨z, T1, T2⟩ := T
  refine mw_if_lt 70 (dT d7_mostOff 17 rfl) (by decide) z (fun z => ?_) (fun z => ?_)
  · have T := T1 z
    refine mw_aload_n (dT d7_mostOff 35 rfl) rfl (by decide) ?_
    refine mw_getR fl_X7_45 (dT d7_mostOff 36 rfl) ?_
    refine mw_sipush (by decide) (dT d7_mostOff 37 rfl) ?_
    refine mw_iload_n (dT d7_mostOff 38 rfl) rfl ?_
    have T := T _ rfl
    refine mw_iastore ro_41 (dT d7_mostOff 39 rfl) (by decide) ?_
    refine mw_iload (dT d7_mostOff 40 rfl) rfl ?_
    exact mw_iret rfl (dT d7_mostOff 41 rfl) ⟨_, rfl, T⟩
  · have T := T2 z
    refine mw_iload (dT d7_mostOff 18 rfl) rfl ?_
    refine mw_bipush (by decide) (dT d7_mostOff 19 rfl) ?_
    obtain ⟨z, T1, T2⟩ := T
    refine mw_icmp_ne 70 (dT d7_mostOff 20 rfl) (by decide) ⟨z, by decide⟩ (fun z => ?_) (fun z => ?_)
    · have T := T1 z
      refine mw_aload_n (dT d7_mostOff 35 rfl) rfl (by decide) ?_
      refine mw_getR fl_X7_45 (dT d7_mostOff 36 rfl) ?_
      refine mw_sipush (by decide) (dT d7_mostOff 37 rfl) ?_
      refine mw_iload_n (dT d7_mostOff 38 rfl) rfl ?_
      have T := T _ rfl
      refine mw_iastore ro_41 (dT d7_mostOff 39 rfl) (by decide) ?_
      refine mw_iload (dT d7_mostOff 40 rfl) rfl ?_
      exact mw_iret rfl (dT d7_mostOff 41 rfl) ⟨_, rfl, T⟩
    · have T := T2 z
      refine mw_aload_n (dT d7_mostOff 21 rfl) rfl (by decide) ?_
      refine mw_getR fl_X7_45 (dT d7_mostOff 22 rfl) ?_
      refine mw_sipush (by decide) (dT d7_mostOff 23 rfl) ?_
      refine mw_iload (dT d7_mostOff 24 rfl) rfl ?_
      have T := T _ rfl
      refine mw_iastore ro_41 (dT d7_mostOff 25 rfl) (by decide) ?_
      refine mw_aload_n (dT d7_mostOff 26 rfl) rfl (by decide) ?_
      refine mw_callVJ mv_7_paid ml_X7_269 (by decide) (dT d7_mostOff 27 rfl) (as := []) rfl rfl T (fun v1 h4 T => ?_)
      refine mw_lload_n (dT d7_mostOff 28 rfl) rfl ?_
      obtain ⟨z, T1, T2⟩ := T
      refine mw_lif_lt 64 (dT d7_mostOff 29 rfl) (dT d7_mostOff 30 rfl) (by decide) z (fun z => ?_) (fun z => ?_)
      · have T := T1 z
        refine mw_iinc (dT d7_mostOff 33 rfl) rfl (by decide) ?_
        refine mw_goto 29 (dT d7_mostOff 34 rfl) (by decide) ?_
        exact T
      · have T := T2 z
        refine mw_iload (dT d7_mostOff 31 rfl) rfl ?_
        refine mw_istore (dT d7_mostOff 32 rfl) (by decide) ?_
        refine mw_iinc (dT d7_mostOff 33 rfl) rfl (by decide) ?_
        refine mw_goto 29 (dT d7_mostOff 34 rfl) (by decide) ?_
        exact T
theorem s7_mostOff {K : Int → mH → Prop} {h : mH} (T : ∀ h1 : mH, h1 = mSet h 30 0 0 0 → (OkJ M7_allOf [mR 30 0, mI 1] h1 (fun v1 h2 => A7_mostOff_29 K (h1 41 0 313) v1 ((-2)) 500 h2))) : OkI M7_mostOff [mR 30 0] h K := by
  refine Ok.of rfl (n := 5) rfl ?_
  show At (mPI K) M7_mostOff 0 [mR 30 0, mU, mU, mU, mU, mU] [] h
  refine mw_aload_n (dT d7_mostOff 0 rfl) rfl (by decide) ?_
  refine mw_iconst (dT d7_mostOff 1 rfl) ?_
  have T := T _ rfl
  refine mw_putI fp_X7_69 (dT d7_mostOff 2 rfl) ?_
  refine mw_aload_n (dT d7_mostOff 3 rfl) rfl (by decide) ?_
  refine mw_getR fl_X7_45 (dT d7_mostOff 4 rfl) ?_
  refine mw_sipush (by decide) (dT d7_mostOff 5 rfl) ?_
  refine mw_iaload ro_41 (dT d7_mostOff 6 rfl) (by decide) ?_
  refine mw_istore_n (dT d7_mostOff 7 rfl) (by decide) ?_
  refine mw_aload_n (dT d7_mostOff 8 rfl) rfl (by decide) ?_
  refine mw_iconst (dT d7_mostOff 9 rfl) ?_
  refine mw_callVJ mv_7_allOf ml_X7_273 (by decide) (dT d7_mostOff 10 rfl) (as := [mI _]) rfl rfl T (fun v1 h2 T => ?_)
  refine mw_lstore_n (dT d7_mostOff 11 rfl) (by decide) ?_
  refine mw_bipush (by decide) (dT d7_mostOff 12 rfl) ?_
  refine mw_istore (dT d7_mostOff 13 rfl) (by decide) ?_
  refine mw_sipush (by decide) (dT d7_mostOff 14 rfl) ?_
  refine mw_istore (dT d7_mostOff 15 rfl) (by decide) ?_
  exact T
abbrev A7_worst_15 (K : Int → mH → Prop) (x1 x2 x4 : Int) (h : mH) : Prop := At (mPI K) M7_worst 15 [mR 30 0, mI x1, mJ x2, mU, mI x4, mU, mU, mU] [] h
abbrev A7_worst_27 (K : Int → mH → Prop) (x1 x2 x4 x5 : Int) (h : mH) : Prop := At (mPI K) M7_worst 27 [mR 30 0, mI x1, mJ x2, mU, mI x4, mI x5, mU, mU] [] h
theorem s7_worst_15 {K : Int → mH → Prop} {x1 x2 x4 : Int} {h : mH} (T : OkI M7_factors [mR 30 0] h (fun v1 h1 => (mInR x4 ∧ mInR v1) ∧ (v1 ≤ x4 → (K x1 h1)) ∧ (¬ v1 ≤ x4 → (A7_worst_27 K x1 x2 x4 0 h1)))) : A7_worst_15 K x1 x2 x4 h := by
  refine mw_iload (dT d7_worst 9 rfl) rfl ?_
  refine mw_aload_n (dT d7_worst 10 rfl) rfl (by decide) ?_
  refine mw_callVI mv_7_factors ml_X7_193 (by decide) (dT d7_worst 11 rfl) (as := []) rfl rfl T (fun v1 h1 T => ?_)
  obtain ⟨z, T1, T2⟩ := T
  refine mw_icmp_ge 123 (dT d7_worst 12 rfl) (by decide) z (fun z => ?_) (fun z => ?_)
  · have T := T1 z
    refine mw_iload_n (dT d7_worst 62 rfl) rfl ?_
    exact mw_iret rfl (dT d7_worst 63 rfl) ⟨_, rfl, T⟩
  · have T := T2 z
    refine mw_iconst (dT d7_worst 13 rfl) ?_
    refine mw_istore (dT d7_worst 14 rfl) (by decide) ?_
    exact T
theorem s7_worst_27 {K : Int → mH → Prop} {x1 x2 x4 x5 : Int} {h : mH} (T : (0 ≤ x4 ∧ x4 < 8) ∧ ((mInR x5 ∧ mInR (h 35 0 x4)) ∧ ((h 35 0 x4) ≤ x5 → (A7_worst_15 K x1 x2 (x4 + 1) h)) ∧ (¬ (h 35 0 x4) ≤ x5 → (OkI M7_firstOf [mR 30 0, mI x4, mI x5] h (fun v1 h1 => (mInR v1 ∧ mInR x5) ∧ (¬ v1 = x5 → (A7_worst_27 K x1 x2 x4 (x5 + 1) h1)) ∧ (v1 = x5 → (OkI M7_balances [mR 30 0, mI x4, mI x5] h1 (fun v2 h2 => (mInR v2) ∧ (v2 = 0 → (OkJ M7_sumOf [mR 30 0, mI x4, mI x5, mI 1] h2 (fun v3 h3 => OkJ M7_premiumsOf [mR 30 0, mI x4, mI x5] h3 (fun v4 h4 => OkJ M7_without [mJ (v3 - v4)] h4 (fun v5 h5 => (mInL v5 ∧ mInL x2) ∧ (x2 < v5 → (A7_worst_27 K ((8 * x4) + x5) v5 x4 (x5 + 1) h5)) ∧ (¬ x2 < v5 → (A7_worst_27 K x1 x2 x4 (x5 + 1) h5))))))) ∧ (¬ v2 = 0 → (A7_worst_27 K x1 x2 x4 (x5 + 1) h2)))))))))) : A7_worst_27 K x1 x2 x4 x5 h := by
  refine mw_iload (dT d7_worst 15 rfl) rfl ?_
  refine mw_aload_n (dT d7_worst 16 rfl) rfl (by decide) ?_
  refine mw_getR fl_X7_23 (dT d7_worst 17 rfl) ?_
  refine mw_iload (dT d7_worst 18 rfl) rfl ?_
  obtain ⟨z, T⟩ := T
  refine mw_iaload ro_35 (dT d7_worst 19 rfl) z ?_
  obtain ⟨z, T1, T2⟩ := T
  refine mw_icmp_ge 117 (dT d7_worst 20 rfl) (by decide) z (fun z => ?_) (fun z => ?_)
  · have T := T1 z
    refine mw_iinc (dT d7_worst 60 rfl) rfl (by decide) ?_
    refine mw_goto 15 (dT d7_worst 61 rfl) (by decide) ?_
    exact At.forget [5] T
  · have T := T2 z
    refine mw_aload_n (dT d7_worst 21 rfl) rfl (by decide) ?_
    refine mw_iload (dT d7_worst 22 rfl) rfl ?_
    refine mw_iload (dT d7_worst 23 rfl) rfl ?_
    refine mw_callVI mv_7_firstOf ml_X7_210 (by decide) (dT d7_worst 24 rfl) (as := [mI _, mI _]) rfl rfl T (fun v1 h1 T => ?_)
    refine mw_iload (dT d7_worst 25 rfl) rfl ?_
    obtain ⟨z, T1, T2⟩ := T
    refine mw_icmp_ne 111 (dT d7_worst 26 rfl) (by decide) z (fun z => ?_) (fun z => ?_)
    · have T := T1 z
      refine mw_iinc (dT d7_worst 58 rfl) rfl (by decide) ?_
      refine mw_goto 27 (dT d7_worst 59 rfl) (by decide) ?_
      exact T
    · have T := T2 z
      refine mw_aload_n (dT d7_worst 27 rfl) rfl (by decide) ?_
      refine mw_iload (dT d7_worst 28 rfl) rfl ?_
      refine mw_iload (dT d7_worst 29 rfl) rfl ?_
      refine mw_callVI mv_7_balances ml_X7_252 (by decide) (dT d7_worst 30 rfl) (as := [mI _, mI _]) rfl rfl T (fun v2 h2 T => ?_)
      obtain ⟨z, T1, T2⟩ := T
      refine mw_if_eq 66 (dT d7_worst 31 rfl) (by decide) z (fun z => ?_) (fun z => ?_)
      · have T := T1 z
        refine mw_aload_n (dT d7_worst 33 rfl) rfl (by decide) ?_
        refine mw_iload (dT d7_worst 34 rfl) rfl ?_
        refine mw_iload (dT d7_worst 35 rfl) rfl ?_
        refine mw_iconst (dT d7_worst 36 rfl) ?_
        refine mw_callVJ mv_7_sumOf ml_X7_242 (by decide) (dT d7_worst 37 rfl) (as := [mI _, mI _, mI _]) rfl rfl T (fun v3 h3 T => ?_)
        refine mw_aload_n (dT d7_worst 38 rfl) rfl (by decide) ?_
        refine mw_iload (dT d7_worst 39 rfl) rfl ?_
        refine mw_iload (dT d7_worst 40 rfl) rfl ?_
        refine mw_callVJ mv_7_premiumsOf ml_X7_245 (by decide) (dT d7_worst 41 rfl) (as := [mI _, mI _]) rfl rfl T (fun v4 h4 T => ?_)
        refine mw_lsub (dT d7_worst 42 rfl) ?_
        refine mw_callSJ mt_7_without ml_X7_248 (by decide) (dT d7_worst 43 rfl) (as := [mJ _]) rfl rfl T (fun v5 h5 T => ?_)
        refine mw_lstore (dT d7_worst 44 rfl) (by decide) ?_
        refine mw_lload (dT d7_worst 45 rfl) rfl ?_
        refine mw_lload_n (dT d7_worst 46 rfl) rfl ?_
        obtain ⟨z, T1, T2⟩ := T
        refine mw_lif_gt 99 (dT d7_worst 47 rfl) (dT d7_worst 48 rfl) (by decide) z (fun z => ?_) (fun z => ?_)
        · have T := T1 z
          refine mw_bipush (by decide) (dT d7_worst 50 rfl) ?_
          refine mw_iload (dT d7_worst 51 rfl) rfl ?_
          refine mw_imul (dT d7_worst 52 rfl) ?_
          refine mw_iload (dT d7_worst 53 rfl) rfl ?_
          refine mw_iadd (dT d7_worst 54 rfl) ?_
          refine mw_istore_n (dT d7_worst 55 rfl) (by decide) ?_
          refine mw_lload (dT d7_worst 56 rfl) rfl ?_
          refine mw_lstore_n (dT d7_worst 57 rfl) (by decide) ?_
          refine mw_iinc (dT d7_worst 58 rfl) rfl (by decide) ?_
          refine mw_goto 27 (dT d7_worst 59 rfl) (by decide) ?_
          exact At.forget [6] T
        · have T := T2 z
          refine mw_goto 111 (dT d7_worst 49 rfl) (by decide) ?_
          refine mw_iinc (dT d7_worst 58 rfl) rfl (by decide) ?_
          refine mw_goto 27 (dT d7_worst 59 rfl) (by decide) ?_
          exact At.forget [6] T
      · have T := T2 z
        refine mw_goto 111 (dT d7_worst 32 rfl) (by decide) ?_
        refine mw_iinc (dT d7_worst 58 rfl) rfl (by decide) ?_
        refine mw_goto 27 (dT d7_worst 59 rfl) (by decide) ?_
        exact T
theorem s7_worst {K : Int → mH → Prop} {h : mH} (T : ∀ h1 : mH, h1 = mSet h 30 0 0 0 → (A7_worst_15 K ((-2)) ((-1)) 0 h1)) : OkI M7_worst [mR 30 0] h K := by
  refine Ok.of rfl (n := 7) rfl ?_
  show At (mPI K) M7_worst 0 [mR 30 0, mU, mU, mU, mU, mU, mU, mU] [] h
  refine mw_aload_n (dT d7_worst 0 rfl) rfl (by decide) ?_
  refine mw_iconst (dT d7_worst 1 rfl) ?_
  have T := T _ rfl
  refine mw_putI fp_X7_69 (dT d7_worst 2 rfl) ?_
  refine mw_bipush (by decide) (dT d7_worst 3 rfl) ?_
  refine mw_istore_n (dT d7_worst 4 rfl) (by decide) ?_
  refine mw_ldc2 kl_X7_307 (dT d7_worst 5 rfl) ?_
  refine mw_lstore_n (dT d7_worst 6 rfl) (by decide) ?_
  refine mw_iconst (dT d7_worst 7 rfl) ?_
  refine mw_istore (dT d7_worst 8 rfl) (by decide) ?_
  exact T
theorem s7_lowerEnd {K : Int → mH → Prop} {x1 : Int} {h : mH} (T : (0 ≤ ((7 * x1) + 2) ∧ ((7 * x1) + 2) < 314) ∧ ((mInR (h 41 0 ((7 * x1) + 2))) ∧ ((mInR (h 41 0 309)) ∧ ((mInL ((h 41 0 ((7 * x1) + 2)) * (h 41 0 309))) ∧ (K ((h 41 0 ((7 * x1) + 2)) - (Int.tdiv ((h 41 0 ((7 * x1) + 2)) * (h 41 0 309)) 1000)) h))))) : OkJ M7_lowerEnd [mR 30 0, mI x1] h K := by
  refine Ok.of rfl (n := 2) rfl ?_
  show At (mPJ K) M7_lowerEnd 0 [mR 30 0, mI x1, mU, mU] [] h
  refine mw_aload_n (dT d7_lowerEnd 0 rfl) rfl (by decide) ?_
  refine mw_getR fl_X7_45 (dT d7_lowerEnd 1 rfl) ?_
  refine mw_bipush (by decide) (dT d7_lowerEnd 2 rfl) ?_
  refine mw_iload_n (dT d7_lowerEnd 3 rfl) rfl ?_
  refine mw_imul (dT d7_lowerEnd 4 rfl) ?_
  refine mw_iconst (dT d7_lowerEnd 5 rfl) ?_
  refine mw_iadd (dT d7_lowerEnd 6 rfl) ?_
  obtain ⟨z, T⟩ := T
  refine mw_iaload ro_41 (dT d7_lowerEnd 7 rfl) z ?_
  obtain ⟨z, T⟩ := T
  refine mw_i2l (dT d7_lowerEnd 8 rfl) z ?_
  refine mw_lstore_n (dT d7_lowerEnd 9 rfl) (by decide) ?_
  refine mw_lload_n (dT d7_lowerEnd 10 rfl) rfl ?_
  refine mw_lload_n (dT d7_lowerEnd 11 rfl) rfl ?_
  refine mw_aload_n (dT d7_lowerEnd 12 rfl) rfl (by decide) ?_
  refine mw_getR fl_X7_45 (dT d7_lowerEnd 13 rfl) ?_
  refine mw_sipush (by decide) (dT d7_lowerEnd 14 rfl) ?_
  refine mw_iaload ro_41 (dT d7_lowerEnd 15 rfl) (by decide) ?_
  obtain ⟨z, T⟩ := T
  refine mw_i2l (dT d7_lowerEnd 16 rfl) z ?_
  refine mw_lmul (dT d7_lowerEnd 17 rfl) ?_
  refine mw_ldc2 kl_X7_220 (dT d7_lowerEnd 18 rfl) ?_
  obtain ⟨z, T⟩ := T
  refine mw_ldiv (dT d7_lowerEnd 19 rfl) ⟨z, by decide, by decide⟩ ?_
  refine mw_lsub (dT d7_lowerEnd 20 rfl) ?_
  exact mw_lret rfl (dT d7_lowerEnd 21 rfl) ⟨_, rfl, T⟩
theorem s7_upperEnd {K : Int → mH → Prop} {x1 : Int} {h : mH} (T : (0 ≤ ((7 * x1) + 2) ∧ ((7 * x1) + 2) < 314) ∧ ((mInR (h 41 0 ((7 * x1) + 2))) ∧ ((mInR (h 41 0 309)) ∧ ((mInL ((h 41 0 ((7 * x1) + 2)) * (h 41 0 309))) ∧ (K ((h 41 0 ((7 * x1) + 2)) + (Int.tdiv ((h 41 0 ((7 * x1) + 2)) * (h 41 0 309)) 1000)) h))))) : OkJ M7_upperEnd [mR 30 0, mI x1] h K := by
  refine Ok.of rfl (n := 2) rfl ?_
  show At (mPJ K) M7_upperEnd 0 [mR 30 0, mI x1, mU, mU] [] h
  refine mw_aload_n (dT d7_upperEnd 0 rfl) rfl (by decide) ?_
  refine mw_getR fl_X7_45 (dT d7_upperEnd 1 rfl) ?_
  refine mw_bipush (by decide) (dT d7_upperEnd 2 rfl) ?_
  refine mw_iload_n (dT d7_upperEnd 3 rfl) rfl ?_
  refine mw_imul (dT d7_upperEnd 4 rfl) ?_
  refine mw_iconst (dT d7_upperEnd 5 rfl) ?_
  refine mw_iadd (dT d7_upperEnd 6 rfl) ?_
  obtain ⟨z, T⟩ := T
  refine mw_iaload ro_41 (dT d7_upperEnd 7 rfl) z ?_
  obtain ⟨z, T⟩ := T
  refine mw_i2l (dT d7_upperEnd 8 rfl) z ?_
  refine mw_lstore_n (dT d7_upperEnd 9 rfl) (by decide) ?_
  refine mw_lload_n (dT d7_upperEnd 10 rfl) rfl ?_
  refine mw_lload_n (dT d7_upperEnd 11 rfl) rfl ?_
  refine mw_aload_n (dT d7_upperEnd 12 rfl) rfl (by decide) ?_
  refine mw_getR fl_X7_45 (dT d7_upperEnd 13 rfl) ?_
  refine mw_sipush (by decide) (dT d7_upperEnd 14 rfl) ?_
  refine mw_iaload ro_41 (dT d7_upperEnd 15 rfl) (by decide) ?_
  obtain ⟨z, T⟩ := T
  refine mw_i2l (dT d7_upperEnd 16 rfl) z ?_
  refine mw_lmul (dT d7_upperEnd 17 rfl) ?_
  refine mw_ldc2 kl_X7_220 (dT d7_upperEnd 18 rfl) ?_
  obtain ⟨z, T⟩ := T
  refine mw_ldiv (dT d7_upperEnd 19 rfl) ⟨z, by decide, by decide⟩ ?_
  refine mw_ladd (dT d7_upperEnd 20 rfl) ?_
  exact mw_lret rfl (dT d7_upperEnd 21 rfl) ⟨_, rfl, T⟩
theorem s7_rawBy {K : Int → mH → Prop} {x1 : Int} {x2 : Int} {h : mH} (T : OkJ M7_premiumOf [mR 30 0, mI x1] h (fun v1 h1 => (mInR x2) ∧ ((mInL (v1 * x2)) ∧ (K (Int.tdiv (v1 * x2) 10000) h1)))) : OkJ M7_rawBy [mR 30 0, mI x1, mI x2] h K := by
  refine Ok.of rfl (n := 0) rfl ?_
  show At (mPJ K) M7_rawBy 0 [mR 30 0, mI x1, mI x2] [] h
  refine mw_aload_n (dT d7_rawBy 0 rfl) rfl (by decide) ?_
  refine mw_iload_n (dT d7_rawBy 1 rfl) rfl ?_
  refine mw_callVJ mv_7_premiumOf ml_X7_235 (by decide) (dT d7_rawBy 2 rfl) (as := [mI _]) rfl rfl T (fun v1 h1 T => ?_)
  refine mw_iload_n (dT d7_rawBy 3 rfl) rfl ?_
  obtain ⟨z, T⟩ := T
  refine mw_i2l (dT d7_rawBy 4 rfl) z ?_
  refine mw_lmul (dT d7_rawBy 5 rfl) ?_
  refine mw_ldc2 kl_X7_225 (dT d7_rawBy 6 rfl) ?_
  obtain ⟨z, T⟩ := T
  refine mw_ldiv (dT d7_rawBy 7 rfl) ⟨z, by decide, by decide⟩ ?_
  exact mw_lret rfl (dT d7_rawBy 8 rfl) ⟨_, rfl, T⟩
theorem s7_cappedBy {K : Int → mH → Prop} {x1 : Int} {x2 : Int} {h : mH} (T : OkJ M7_rawBy [mR 30 0, mI x1, mI x2] h (fun v1 h1 => OkJ M7_lowerEnd [mR 30 0, mI x1] h1 (fun v2 h2 => OkJ M7_upperEnd [mR 30 0, mI x1] h2 (fun v3 h3 => OkJ M7_within [mJ v1, mJ v2, mJ v3] h3 (fun v4 h4 => K v4 h4))))) : OkJ M7_cappedBy [mR 30 0, mI x1, mI x2] h K := by
  refine Ok.of rfl (n := 0) rfl ?_
  show At (mPJ K) M7_cappedBy 0 [mR 30 0, mI x1, mI x2] [] h
  refine mw_aload_n (dT d7_cappedBy 0 rfl) rfl (by decide) ?_
  refine mw_iload_n (dT d7_cappedBy 1 rfl) rfl ?_
  refine mw_iload_n (dT d7_cappedBy 2 rfl) rfl ?_
  refine mw_callVJ mv_7_rawBy ml_X7_319 (by decide) (dT d7_cappedBy 3 rfl) (as := [mI _, mI _]) rfl rfl T (fun v1 h1 T => ?_)
  refine mw_aload_n (dT d7_cappedBy 4 rfl) rfl (by decide) ?_
  refine mw_iload_n (dT d7_cappedBy 5 rfl) rfl ?_
  refine mw_callVJ mv_7_lowerEnd ml_X7_322 (by decide) (dT d7_cappedBy 6 rfl) (as := [mI _]) rfl rfl T (fun v2 h2 T => ?_)
  refine mw_aload_n (dT d7_cappedBy 7 rfl) rfl (by decide) ?_
  refine mw_iload_n (dT d7_cappedBy 8 rfl) rfl ?_
  refine mw_callVJ mv_7_upperEnd ml_X7_325 (by decide) (dT d7_cappedBy 9 rfl) (as := [mI _]) rfl rfl T (fun v3 h3 T => ?_)
  refine mw_callSJ mt_7_within ml_X7_255 (by decide) (dT d7_cappedBy 10 rfl) (as := [mJ _, mJ _, mJ _]) rfl rfl T (fun v4 h4 T => ?_)
  exact mw_lret rfl (dT d7_cappedBy 11 rfl) ⟨_, rfl, T⟩
abbrev A7_allCapped_5 (K : Int → mH → Prop) (x1 x2 x4 : Int) (h : mH) : Prop := At (mPJ K) M7_allCapped 5 [mR 30 0, mI x1, mJ x2, mU, mI x4] [] h
theorem s7_allCapped_5 {K : Int → mH → Prop} {x1 x2 x4 : Int} {h : mH} (T : OkI M7_many [mR 30 0] h (fun v1 h1 => (mInR x4 ∧ mInR v1) ∧ (v1 ≤ x4 → (K x2 h1)) ∧ (¬ v1 ≤ x4 → (OkJ M7_cappedBy [mR 30 0, mI x4, mI x1] h1 (fun v2 h2 => A7_allCapped_5 K x1 (x2 + v2) (x4 + 1) h2))))) : A7_allCapped_5 K x1 x2 x4 h := by
  refine mw_iload (dT d7_allCapped 4 rfl) rfl ?_
  refine mw_aload_n (dT d7_allCapped 5 rfl) rfl (by decide) ?_
  refine mw_callVI mv_7_many ml_X7_200 (by decide) (dT d7_allCapped 6 rfl) (as := []) rfl rfl T (fun v1 h1 T => ?_)
  obtain ⟨z, T1, T2⟩ := T
  refine mw_icmp_ge 30 (dT d7_allCapped 7 rfl) (by decide) z (fun z => ?_) (fun z => ?_)
  · have T := T1 z
    refine mw_lload_n (dT d7_allCapped 17 rfl) rfl ?_
    exact mw_lret rfl (dT d7_allCapped 18 rfl) ⟨_, rfl, T⟩
  · have T := T2 z
    refine mw_lload_n (dT d7_allCapped 8 rfl) rfl ?_
    refine mw_aload_n (dT d7_allCapped 9 rfl) rfl (by decide) ?_
    refine mw_iload (dT d7_allCapped 10 rfl) rfl ?_
    refine mw_iload_n (dT d7_allCapped 11 rfl) rfl ?_
    refine mw_callVJ mv_7_cappedBy ml_X7_328 (by decide) (dT d7_allCapped 12 rfl) (as := [mI _, mI _]) rfl rfl T (fun v2 h2 T => ?_)
    refine mw_ladd (dT d7_allCapped 13 rfl) ?_
    refine mw_lstore_n (dT d7_allCapped 14 rfl) (by decide) ?_
    refine mw_iinc (dT d7_allCapped 15 rfl) rfl (by decide) ?_
    refine mw_goto 5 (dT d7_allCapped 16 rfl) (by decide) ?_
    exact T
theorem s7_allCapped {K : Int → mH → Prop} {x1 : Int} {h : mH} (T : A7_allCapped_5 K x1 0 0 h) : OkJ M7_allCapped [mR 30 0, mI x1] h K := by
  refine Ok.of rfl (n := 3) rfl ?_
  show At (mPJ K) M7_allCapped 0 [mR 30 0, mI x1, mU, mU, mU] [] h
  refine mw_lconst (dT d7_allCapped 0 rfl) ?_
  refine mw_lstore_n (dT d7_allCapped 1 rfl) (by decide) ?_
  refine mw_iconst (dT d7_allCapped 2 rfl) ?_
  refine mw_istore (dT d7_allCapped 3 rfl) (by decide) ?_
  exact T
abbrev A7_offBalanceNow_26 (K : Int → mH → Prop) (x1 x3 x4 : Int) (h : mH) : Prop := At (mPI K) M7_offBalanceNow 26 [mR 30 0, mJ x1, mU, mI x3, mI x4, mU] [] h
theorem s7_offBalanceNow_26 {K : Int → mH → Prop} {x1 x3 x4 : Int} {h : mH} (T : (mInR (x4 - x3)) ∧ ((x4 - x3) ≤ 1 → (K x4 h)) ∧ (¬ (x4 - x3) ≤ 1 → ((mInR (x3 + x4)) ∧ (OkJ M7_allCapped [mR 30 0, mI (Int.tdiv (x3 + x4) 2)] h (fun v1 h1 => (mInL v1 ∧ mInL x1) ∧ (v1 < x1 → (A7_offBalanceNow_26 K x1 (Int.tdiv (x3 + x4) 2) x4 h1)) ∧ (¬ v1 < x1 → (A7_offBalanceNow_26 K x1 x3 (Int.tdiv (x3 + x4) 2) h1))))))) : A7_offBalanceNow_26 K x1 x3 x4 h := by
  refine mw_iload (dT d7_offBalanceNow 16 rfl) rfl ?_
  refine mw_iload_n (dT d7_offBalanceNow 17 rfl) rfl ?_
  refine mw_isub (dT d7_offBalanceNow 18 rfl) ?_
  refine mw_iconst (dT d7_offBalanceNow 19 rfl) ?_
  obtain ⟨z, T1, T2⟩ := T
  refine mw_icmp_le 66 (dT d7_offBalanceNow 20 rfl) (by decide) ⟨z, by decide⟩ (fun z => ?_) (fun z => ?_)
  · have T := T1 z
    refine mw_iload (dT d7_offBalanceNow 39 rfl) rfl ?_
    exact mw_iret rfl (dT d7_offBalanceNow 40 rfl) ⟨_, rfl, T⟩
  · have T := T2 z
    refine mw_iload_n (dT d7_offBalanceNow 21 rfl) rfl ?_
    refine mw_iload (dT d7_offBalanceNow 22 rfl) rfl ?_
    refine mw_iadd (dT d7_offBalanceNow 23 rfl) ?_
    refine mw_iconst (dT d7_offBalanceNow 24 rfl) ?_
    obtain ⟨z, T⟩ := T
    refine mw_idiv (dT d7_offBalanceNow 25 rfl) ⟨z, by decide, by decide⟩ ?_
    refine mw_istore (dT d7_offBalanceNow 26 rfl) (by decide) ?_
    refine mw_aload_n (dT d7_offBalanceNow 27 rfl) rfl (by decide) ?_
    refine mw_iload (dT d7_offBalanceNow 28 rfl) rfl ?_
    refine mw_callVJ mv_7_allCapped ml_X7_331 (by decide) (dT d7_offBalanceNow 29 rfl) (as := [mI _]) rfl rfl T (fun v1 h1 T => ?_)
    refine mw_lload_n (dT d7_offBalanceNow 30 rfl) rfl ?_
    obtain ⟨z, T1, T2⟩ := T
    refine mw_lif_lt 60 (dT d7_offBalanceNow 31 rfl) (dT d7_offBalanceNow 32 rfl) (by decide) z (fun z => ?_) (fun z => ?_)
    · have T := T1 z
      refine mw_iload (dT d7_offBalanceNow 36 rfl) rfl ?_
      refine mw_istore_n (dT d7_offBalanceNow 37 rfl) (by decide) ?_
      refine mw_goto 26 (dT d7_offBalanceNow 38 rfl) (by decide) ?_
      exact At.forget [5] T
    · have T := T2 z
      refine mw_iload (dT d7_offBalanceNow 33 rfl) rfl ?_
      refine mw_istore (dT d7_offBalanceNow 34 rfl) (by decide) ?_
      refine mw_goto 63 (dT d7_offBalanceNow 35 rfl) (by decide) ?_
      refine mw_goto 26 (dT d7_offBalanceNow 38 rfl) (by decide) ?_
      exact At.forget [5] T
theorem s7_offBalanceNow {K : Int → mH → Prop} {h : mH} (T : OkJ M7_allOf [mR 30 0, mI 1] h (fun v1 h1 => OkJ M7_allCapped [mR 30 0, mI 99999] h1 (fun v2 h2 => (mInL v2 ∧ mInL v1) ∧ (v1 ≤ v2 → (A7_offBalanceNow_26 K v1 ((-1)) 99999 h2)) ∧ (¬ v1 ≤ v2 → (K ((-2)) h2))))) : OkI M7_offBalanceNow [mR 30 0] h K := by
  refine Ok.of rfl (n := 5) rfl ?_
  show At (mPI K) M7_offBalanceNow 0 [mR 30 0, mU, mU, mU, mU, mU] [] h
  refine mw_aload_n (dT d7_offBalanceNow 0 rfl) rfl (by decide) ?_
  refine mw_iconst (dT d7_offBalanceNow 1 rfl) ?_
  refine mw_callVJ mv_7_allOf ml_X7_273 (by decide) (dT d7_offBalanceNow 2 rfl) (as := [mI _]) rfl rfl T (fun v1 h1 T => ?_)
  refine mw_lstore_n (dT d7_offBalanceNow 3 rfl) (by decide) ?_
  refine mw_aload_n (dT d7_offBalanceNow 4 rfl) rfl (by decide) ?_
  refine mw_ldc kc_X7_107 (dT d7_offBalanceNow 5 rfl) ?_
  refine mw_callVJ mv_7_allCapped ml_X7_331 (by decide) (dT d7_offBalanceNow 6 rfl) (as := [mI _]) rfl rfl T (fun v2 h2 T => ?_)
  refine mw_lload_n (dT d7_offBalanceNow 7 rfl) rfl ?_
  obtain ⟨z, T1, T2⟩ := T
  refine mw_lif_ge 20 (dT d7_offBalanceNow 8 rfl) (dT d7_offBalanceNow 9 rfl) (by decide) z (fun z => ?_) (fun z => ?_)
  · have T := T1 z
    refine mw_iconst (dT d7_offBalanceNow 12 rfl) ?_
    refine mw_istore_n (dT d7_offBalanceNow 13 rfl) (by decide) ?_
    refine mw_ldc kc_X7_107 (dT d7_offBalanceNow 14 rfl) ?_
    refine mw_istore (dT d7_offBalanceNow 15 rfl) (by decide) ?_
    exact T
  · have T := T2 z
    refine mw_bipush (by decide) (dT d7_offBalanceNow 10 rfl) ?_
    exact mw_iret rfl (dT d7_offBalanceNow 11 rfl) ⟨_, rfl, T⟩
theorem s7_byNow {K : Int → mH → Prop} {h : mH} (T : OkI M7_offBalanceNow [mR 30 0] h (fun v1 h1 => (mInR v1) ∧ (¬ v1 = ((-2)) → (K v1 h1)) ∧ (v1 = ((-2)) → (K 10000 h1)))) : OkI M7_byNow [mR 30 0] h K := by
  refine Ok.of rfl (n := 1) rfl ?_
  show At (mPI K) M7_byNow 0 [mR 30 0, mU] [] h
  refine mw_aload_n (dT d7_byNow 0 rfl) rfl (by decide) ?_
  refine mw_callVI mv_7_offBalanceNow ml_X7_334 (by decide) (dT d7_byNow 1 rfl) (as := []) rfl rfl T (fun v1 h1 T => ?_)
  refine mw_istore_n (dT d7_byNow 2 rfl) (by decide) ?_
  refine mw_iload_n (dT d7_byNow 3 rfl) rfl ?_
  refine mw_bipush (by decide) (dT d7_byNow 4 rfl) ?_
  obtain ⟨z, T1, T2⟩ := T
  refine mw_icmp_ne 17 (dT d7_byNow 5 rfl) (by decide) ⟨z, by decide⟩ (fun z => ?_) (fun z => ?_)
  · have T := T1 z
    refine mw_iload_n (dT d7_byNow 8 rfl) rfl ?_
    exact mw_iret rfl (dT d7_byNow 9 rfl) ⟨_, rfl, T⟩
  · have T := T2 z
    refine mw_sipush (by decide) (dT d7_byNow 6 rfl) ?_
    refine mw_goto 18 (dT d7_byNow 7 rfl) (by decide) ?_
    exact mw_iret rfl (dT d7_byNow 9 rfl) ⟨_, rfl, T⟩
theorem s7_changeBy {K : Int → mH → Prop} {x1 : Int} {x2 : Int} {h : mH} (T : OkJ M7_cappedBy [mR 30 0, mI x1, mI x2] h (fun v1 h1 => (0 ≤ ((7 * x1) + 2) ∧ ((7 * x1) + 2) < 314) ∧ ((mInR (h1 41 0 ((7 * x1) + 2))) ∧ (K (v1 - (h1 41 0 ((7 * x1) + 2))) h1)))) : OkJ M7_changeBy [mR 30 0, mI x1, mI x2] h K := by
  refine Ok.of rfl (n := 0) rfl ?_
  show At (mPJ K) M7_changeBy 0 [mR 30 0, mI x1, mI x2] [] h
  refine mw_aload_n (dT d7_changeBy 0 rfl) rfl (by decide) ?_
  refine mw_iload_n (dT d7_changeBy 1 rfl) rfl ?_
  refine mw_iload_n (dT d7_changeBy 2 rfl) rfl ?_
  refine mw_callVJ mv_7_cappedBy ml_X7_328 (by decide) (dT d7_changeBy 3 rfl) (as := [mI _, mI _]) rfl rfl T (fun v1 h1 T => ?_)
  refine mw_aload_n (dT d7_changeBy 4 rfl) rfl (by decide) ?_
  refine mw_getR fl_X7_45 (dT d7_changeBy 5 rfl) ?_
  refine mw_bipush (by decide) (dT d7_changeBy 6 rfl) ?_
  refine mw_iload_n (dT d7_changeBy 7 rfl) rfl ?_
  refine mw_imul (dT d7_changeBy 8 rfl) ?_
  refine mw_iconst (dT d7_changeBy 9 rfl) ?_
  refine mw_iadd (dT d7_changeBy 10 rfl) ?_
  obtain ⟨z, T⟩ := T
  refine mw_iaload ro_41 (dT d7_changeBy 11 rfl) z ?_
  obtain ⟨z, T⟩ := T
  refine mw_i2l (dT d7_changeBy 12 rfl) z ?_
  refine mw_lsub (dT d7_changeBy 13 rfl) ?_
  exact mw_lret rfl (dT d7_changeBy 14 rfl) ⟨_, rfl, T⟩
theorem s7_of {K : Int → mH → Prop} {x1 : Int} {x2 : Int} {h : mH} (T : ∀ h1 : mH, h1 = mSet h 30 0 0 0 → (OkI M7_isRisk [mR 30 0, mI x1] h1 (fun v1 h2 => (mInR v1) ∧ (v1 = 0 → (K ((-999999999)) h2)) ∧ (¬ v1 = 0 → ((mInR x2) ∧ (x2 < 0 → (K ((-999999999)) h2)) ∧ (¬ x2 < 0 → (OkI M7_factors [mR 30 0] h2 (fun v2 h3 => (mInR x2 ∧ mInR (6 + v2)) ∧ (x2 < (6 + v2) → (mInR x2 ∧ (x2 = 0 → ((0 ≤ ((7 * x1) + x2) ∧ ((7 * x1) + x2) < 314) ∧ ((mInR (h3 41 0 ((7 * x1) + x2))) ∧ (K (h3 41 0 ((7 * x1) + x2)) h3)))) ∧ (x2 = 1 → ((0 ≤ ((7 * x1) + x2) ∧ ((7 * x1) + x2) < 314) ∧ ((mInR (h3 41 0 ((7 * x1) + x2))) ∧ (K (h3 41 0 ((7 * x1) + x2)) h3)))) ∧ (x2 = 2 → ((0 ≤ ((7 * x1) + x2) ∧ ((7 * x1) + x2) < 314) ∧ ((mInR (h3 41 0 ((7 * x1) + x2))) ∧ (K (h3 41 0 ((7 * x1) + x2)) h3)))) ∧ (x2 = 3 → (OkJ M7_premiumOf [mR 30 0, mI x1] h3 (fun v3 h4 => K v3 h4))) ∧ (x2 = 4 → (OkI M7_byNow [mR 30 0] h3 (fun v4 h5 => OkJ M7_cappedBy [mR 30 0, mI x1, mI v4] h5 (fun v5 h6 => K v5 h6)))) ∧ (x2 = 5 → (OkI M7_byNow [mR 30 0] h3 (fun v6 h7 => OkJ M7_changeBy [mR 30 0, mI x1, mI v6] h7 (fun v7 h8 => K v7 h8)))) ∧ (x2 < 0 ∨ 5 < x2 → ((0 ≤ ((((7 * x1) + 3) + x2) - 6) ∧ ((((7 * x1) + 3) + x2) - 6) < 314) ∧ ((mInR (h3 41 0 ((((7 * x1) + 3) + x2) - 6))) ∧ (K (h3 41 0 ((((7 * x1) + 3) + x2) - 6)) h3)))))) ∧ (¬ x2 < (6 + v2) → (K ((-999999999)) h3)))))))))) : OkJ M7_of [mR 30 0, mI x1, mI x2] h K := by
  refine Ok.of rfl (n := 0) rfl ?_
  show At (mPJ K) M7_of 0 [mR 30 0, mI x1, mI x2] [] h
  refine mw_aload_n (dT d7_of 0 rfl) rfl (by decide) ?_
  refine mw_iconst (dT d7_of 1 rfl) ?_
  have T := T _ rfl
  refine mw_putI fp_X7_69 (dT d7_of 2 rfl) ?_
  refine mw_aload_n (dT d7_of 3 rfl) rfl (by decide) ?_
  refine mw_iload_n (dT d7_of 4 rfl) rfl ?_
  refine mw_callVI mv_7_isRisk ml_X7_295 (by decide) (dT d7_of 5 rfl) (as := [mI _]) rfl rfl T (fun v1 h2 T => ?_)
  obtain ⟨z, T1, T2⟩ := T
  refine mw_if_eq 28 (dT d7_of 6 rfl) (by decide) z (fun z => ?_) (fun z => ?_)
  · have T := T1 z
    refine mw_ldc2 kl_X7_337 (dT d7_of 15 rfl) ?_
    exact mw_lret rfl (dT d7_of 16 rfl) ⟨_, rfl, T⟩
  · have T := T2 z
    refine mw_iload_n (dT d7_of 7 rfl) rfl ?_
    obtain ⟨z, T1, T2⟩ := T
    refine mw_if_lt 28 (dT d7_of 8 rfl) (by decide) z (fun z => ?_) (fun z => ?_)
    · have T := T1 z
      refine mw_ldc2 kl_X7_337 (dT d7_of 15 rfl) ?_
      exact mw_lret rfl (dT d7_of 16 rfl) ⟨_, rfl, T⟩
    · have T := T2 z
      refine mw_iload_n (dT d7_of 9 rfl) rfl ?_
      refine mw_bipush (by decide) (dT d7_of 10 rfl) ?_
      refine mw_aload_n (dT d7_of 11 rfl) rfl (by decide) ?_
      refine mw_callVI mv_7_factors ml_X7_193 (by decide) (dT d7_of 12 rfl) (as := []) rfl rfl T (fun v2 h3 T => ?_)
      refine mw_iadd (dT d7_of 13 rfl) ?_
      obtain ⟨z, T1, T2⟩ := T
      refine mw_icmp_lt 32 (dT d7_of 14 rfl) (by decide) z (fun z => ?_) (fun z => ?_)
      · have T := T1 z
        refine mw_iload_n (dT d7_of 17 rfl) rfl ?_
        obtain ⟨z, T0, T1, T2, T3, T4, T5, Td⟩ := T
        by_cases y0 : x2 = 0
        · have T := T0 y0
          refine mw_tableIn 72 (dT d7_of 18 rfl) z (by omega) (by omega) (by rw [y0]; rfl) (by decide) ?_
          refine mw_aload_n (dT d7_of 19 rfl) rfl (by decide) ?_
          refine mw_getR fl_X7_45 (dT d7_of 20 rfl) ?_
          refine mw_bipush (by decide) (dT d7_of 21 rfl) ?_
          refine mw_iload_n (dT d7_of 22 rfl) rfl ?_
          refine mw_imul (dT d7_of 23 rfl) ?_
          refine mw_iload_n (dT d7_of 24 rfl) rfl ?_
          refine mw_iadd (dT d7_of 25 rfl) ?_
          obtain ⟨z, T⟩ := T
          refine mw_iaload ro_41 (dT d7_of 26 rfl) z ?_
          obtain ⟨z, T⟩ := T
          refine mw_i2l (dT d7_of 27 rfl) z ?_
          exact mw_lret rfl (dT d7_of 28 rfl) ⟨_, rfl, T⟩
        by_cases y1 : x2 = 1
        · have T := T1 y1
          refine mw_tableIn 72 (dT d7_of 18 rfl) z (by omega) (by omega) (by rw [y1]; rfl) (by decide) ?_
          refine mw_aload_n (dT d7_of 19 rfl) rfl (by decide) ?_
          refine mw_getR fl_X7_45 (dT d7_of 20 rfl) ?_
          refine mw_bipush (by decide) (dT d7_of 21 rfl) ?_
          refine mw_iload_n (dT d7_of 22 rfl) rfl ?_
          refine mw_imul (dT d7_of 23 rfl) ?_
          refine mw_iload_n (dT d7_of 24 rfl) rfl ?_
          refine mw_iadd (dT d7_of 25 rfl) ?_
          obtain ⟨z, T⟩ := T
          refine mw_iaload ro_41 (dT d7_of 26 rfl) z ?_
          obtain ⟨z, T⟩ := T
          refine mw_i2l (dT d7_of 27 rfl) z ?_
          exact mw_lret rfl (dT d7_of 28 rfl) ⟨_, rfl, T⟩
        by_cases y2 : x2 = 2
        · have T := T2 y2
          refine mw_tableIn 72 (dT d7_of 18 rfl) z (by omega) (by omega) (by rw [y2]; rfl) (by decide) ?_
          refine mw_aload_n (dT d7_of 19 rfl) rfl (by decide) ?_
          refine mw_getR fl_X7_45 (dT d7_of 20 rfl) ?_
          refine mw_bipush (by decide) (dT d7_of 21 rfl) ?_
          refine mw_iload_n (dT d7_of 22 rfl) rfl ?_
          refine mw_imul (dT d7_of 23 rfl) ?_
          refine mw_iload_n (dT d7_of 24 rfl) rfl ?_
          refine mw_iadd (dT d7_of 25 rfl) ?_
          obtain ⟨z, T⟩ := T
          refine mw_iaload ro_41 (dT d7_of 26 rfl) z ?_
          obtain ⟨z, T⟩ := T
          refine mw_i2l (dT d7_of 27 rfl) z ?_
          exact mw_lret rfl (dT d7_of 28 rfl) ⟨_, rfl, T⟩
        by_cases y3 : x2 = 3
        · have T := T3 y3
          refine mw_tableIn 85 (dT d7_of 18 rfl) z (by omega) (by omega) (by rw [y3]; rfl) (by decide) ?_
          refine mw_aload_n (dT d7_of 29 rfl) rfl (by decide) ?_
          refine mw_iload_n (dT d7_of 30 rfl) rfl ?_
          refine mw_callVJ mv_7_premiumOf ml_X7_235 (by decide) (dT d7_of 31 rfl) (as := [mI _]) rfl rfl T (fun v3 h4 T => ?_)
          exact mw_lret rfl (dT d7_of 32 rfl) ⟨_, rfl, T⟩
        by_cases y4 : x2 = 4
        · have T := T4 y4
          refine mw_tableIn 91 (dT d7_of 18 rfl) z (by omega) (by omega) (by rw [y4]; rfl) (by decide) ?_
          refine mw_aload_n (dT d7_of 33 rfl) rfl (by decide) ?_
          refine mw_iload_n (dT d7_of 34 rfl) rfl ?_
          refine mw_aload_n (dT d7_of 35 rfl) rfl (by decide) ?_
          refine mw_callVI mv_7_byNow ml_X7_339 (by decide) (dT d7_of 36 rfl) (as := []) rfl rfl T (fun v4 h5 T => ?_)
          refine mw_callVJ mv_7_cappedBy ml_X7_328 (by decide) (dT d7_of 37 rfl) (as := [mI _, mI _]) rfl rfl T (fun v5 h6 T => ?_)
          exact mw_lret rfl (dT d7_of 38 rfl) ⟨_, rfl, T⟩
        by_cases y5 : x2 = 5
        · have T := T5 y5
          refine mw_tableIn 101 (dT d7_of 18 rfl) z (by omega) (by omega) (by rw [y5]; rfl) (by decide) ?_
          refine mw_aload_n (dT d7_of 39 rfl) rfl (by decide) ?_
          refine mw_iload_n (dT d7_of 40 rfl) rfl ?_
          refine mw_aload_n (dT d7_of 41 rfl) rfl (by decide) ?_
          refine mw_callVI mv_7_byNow ml_X7_339 (by decide) (dT d7_of 42 rfl) (as := []) rfl rfl T (fun v6 h7 T => ?_)
          refine mw_callVJ mv_7_changeBy ml_X7_342 (by decide) (dT d7_of 43 rfl) (as := [mI _, mI _]) rfl rfl T (fun v7 h8 T => ?_)
          exact mw_lret rfl (dT d7_of 44 rfl) ⟨_, rfl, T⟩
        have yd : x2 < 0 ∨ 5 < x2 := by omega
        have T := Td yd
        refine mw_tableOut 111 (dT d7_of 18 rfl) z yd (by decide) ?_
        refine mw_aload_n (dT d7_of 45 rfl) rfl (by decide) ?_
        refine mw_getR fl_X7_45 (dT d7_of 46 rfl) ?_
        refine mw_bipush (by decide) (dT d7_of 47 rfl) ?_
        refine mw_iload_n (dT d7_of 48 rfl) rfl ?_
        refine mw_imul (dT d7_of 49 rfl) ?_
        refine mw_iconst (dT d7_of 50 rfl) ?_
        refine mw_iadd (dT d7_of 51 rfl) ?_
        refine mw_iload_n (dT d7_of 52 rfl) rfl ?_
        refine mw_iadd (dT d7_of 53 rfl) ?_
        refine mw_bipush (by decide) (dT d7_of 54 rfl) ?_
        refine mw_isub (dT d7_of 55 rfl) ?_
        obtain ⟨z, T⟩ := T
        refine mw_iaload ro_41 (dT d7_of 56 rfl) z ?_
        obtain ⟨z, T⟩ := T
        refine mw_i2l (dT d7_of 57 rfl) z ?_
        exact mw_lret rfl (dT d7_of 58 rfl) ⟨_, rfl, T⟩
      · have T := T2 z
        refine mw_ldc2 kl_X7_337 (dT d7_of 15 rfl) ?_
        exact mw_lret rfl (dT d7_of 16 rfl) ⟨_, rfl, T⟩
theorem s7_all {K : Int → mH → Prop} {x1 : Int} {h : mH} (T : ∀ h1 : mH, h1 = mSet h 30 0 0 0 → (mInR x1 ∧ (x1 = 0 → (OkJ M7_allOf [mR 30 0, mI 1] h1 (fun v1 h2 => K v1 h2))) ∧ (x1 = 1 → (OkJ M7_paid [mR 30 0] h1 (fun v2 h3 => K v2 h3))) ∧ (x1 = 2 → (OkJ M7_allOf [mR 30 0, mI 2] h1 (fun v3 h4 => K v3 h4))) ∧ (x1 = 3 → (OkJ M7_misfit [mR 30 0] h1 (fun v4 h5 => K v4 h5))) ∧ (x1 = 4 → (OkJ M7_allOf [mR 30 0, mI 0] h1 (fun v5 h6 => K v5 h6))) ∧ (x1 = 5 → (OkI M7_byNow [mR 30 0] h1 (fun v6 h7 => OkJ M7_allCapped [mR 30 0, mI v6] h7 (fun v7 h8 => K v7 h8)))) ∧ (x1 < 0 ∨ 5 < x1 → (K ((-1)) h1)))) : OkJ M7_all [mR 30 0, mI x1] h K := by
  refine Ok.of rfl (n := 0) rfl ?_
  show At (mPJ K) M7_all 0 [mR 30 0, mI x1] [] h
  refine mw_aload_n (dT d7_all 0 rfl) rfl (by decide) ?_
  refine mw_iconst (dT d7_all 1 rfl) ?_
  have T := T _ rfl
  refine mw_putI fp_X7_69 (dT d7_all 2 rfl) ?_
  refine mw_iload_n (dT d7_all 3 rfl) rfl ?_
  obtain ⟨z, T0, T1, T2, T3, T4, T5, Td⟩ := T
  by_cases y0 : x1 = 0
  · have T := T0 y0
    refine mw_tableIn 44 (dT d7_all 4 rfl) z (by omega) (by omega) (by rw [y0]; rfl) (by decide) ?_
    refine mw_aload_n (dT d7_all 5 rfl) rfl (by decide) ?_
    refine mw_iconst (dT d7_all 6 rfl) ?_
    refine mw_callVJ mv_7_allOf ml_X7_273 (by decide) (dT d7_all 7 rfl) (as := [mI _]) rfl rfl T (fun v1 h2 T => ?_)
    exact mw_lret rfl (dT d7_all 8 rfl) ⟨_, rfl, T⟩
  by_cases y1 : x1 = 1
  · have T := T1 y1
    refine mw_tableIn 50 (dT d7_all 4 rfl) z (by omega) (by omega) (by rw [y1]; rfl) (by decide) ?_
    refine mw_aload_n (dT d7_all 9 rfl) rfl (by decide) ?_
    refine mw_callVJ mv_7_paid ml_X7_269 (by decide) (dT d7_all 10 rfl) (as := []) rfl rfl T (fun v2 h3 T => ?_)
    exact mw_lret rfl (dT d7_all 11 rfl) ⟨_, rfl, T⟩
  by_cases y2 : x1 = 2
  · have T := T2 y2
    refine mw_tableIn 55 (dT d7_all 4 rfl) z (by omega) (by omega) (by rw [y2]; rfl) (by decide) ?_
    refine mw_aload_n (dT d7_all 12 rfl) rfl (by decide) ?_
    refine mw_iconst (dT d7_all 13 rfl) ?_
    refine mw_callVJ mv_7_allOf ml_X7_273 (by decide) (dT d7_all 14 rfl) (as := [mI _]) rfl rfl T (fun v3 h4 T => ?_)
    exact mw_lret rfl (dT d7_all 15 rfl) ⟨_, rfl, T⟩
  by_cases y3 : x1 = 3
  · have T := T3 y3
    refine mw_tableIn 61 (dT d7_all 4 rfl) z (by omega) (by omega) (by rw [y3]; rfl) (by decide) ?_
    refine mw_aload_n (dT d7_all 16 rfl) rfl (by decide) ?_
    refine mw_callVJ mv_7_misfit ml_X7_345 (by decide) (dT d7_all 17 rfl) (as := []) rfl rfl T (fun v4 h5 T => ?_)
    exact mw_lret rfl (dT d7_all 18 rfl) ⟨_, rfl, T⟩
  by_cases y4 : x1 = 4
  · have T := T4 y4
    refine mw_tableIn 66 (dT d7_all 4 rfl) z (by omega) (by omega) (by rw [y4]; rfl) (by decide) ?_
    refine mw_aload_n (dT d7_all 19 rfl) rfl (by decide) ?_
    refine mw_iconst (dT d7_all 20 rfl) ?_
    refine mw_callVJ mv_7_allOf ml_X7_273 (by decide) (dT d7_all 21 rfl) (as := [mI _]) rfl rfl T (fun v5 h6 T => ?_)
    exact mw_lret rfl (dT d7_all 22 rfl) ⟨_, rfl, T⟩
  by_cases y5 : x1 = 5
  · have T := T5 y5
    refine mw_tableIn 72 (dT d7_all 4 rfl) z (by omega) (by omega) (by rw [y5]; rfl) (by decide) ?_
    refine mw_aload_n (dT d7_all 23 rfl) rfl (by decide) ?_
    refine mw_aload_n (dT d7_all 24 rfl) rfl (by decide) ?_
    refine mw_callVI mv_7_byNow ml_X7_339 (by decide) (dT d7_all 25 rfl) (as := []) rfl rfl T (fun v6 h7 T => ?_)
    refine mw_callVJ mv_7_allCapped ml_X7_331 (by decide) (dT d7_all 26 rfl) (as := [mI _]) rfl rfl T (fun v7 h8 T => ?_)
    exact mw_lret rfl (dT d7_all 27 rfl) ⟨_, rfl, T⟩
  have yd : x1 < 0 ∨ 5 < x1 := by omega
  have T := Td yd
  refine mw_tableOut 81 (dT d7_all 4 rfl) z yd (by decide) ?_
  refine mw_ldc2 kl_X7_307 (dT d7_all 28 rfl) ?_
  exact mw_lret rfl (dT d7_all 29 rfl) ⟨_, rfl, T⟩
theorem s7_offBalance {K : Int → mH → Prop} {h : mH} (T : ∀ h1 : mH, h1 = mSet h 30 0 0 0 → (OkI M7_offBalanceNow [mR 30 0] h1 (fun v1 h2 => K v1 h2))) : OkI M7_offBalance [mR 30 0] h K := by
  refine Ok.of rfl (n := 0) rfl ?_
  show At (mPI K) M7_offBalance 0 [mR 30 0] [] h
  refine mw_aload_n (dT d7_offBalance 0 rfl) rfl (by decide) ?_
  refine mw_iconst (dT d7_offBalance 1 rfl) ?_
  have T := T _ rfl
  refine mw_putI fp_X7_69 (dT d7_offBalance 2 rfl) ?_
  refine mw_aload_n (dT d7_offBalance 3 rfl) rfl (by decide) ?_
  refine mw_callVI mv_7_offBalanceNow ml_X7_334 (by decide) (dT d7_offBalance 4 rfl) (as := []) rfl rfl T (fun v1 h2 T => ?_)
  exact mw_iret rfl (dT d7_offBalance 5 rfl) ⟨_, rfl, T⟩
abbrev A7_changes_26 (K : Int → mH → Prop) (x1 x2 x3 x4 : Int) (h : mH) : Prop := At (mPI K) M7_changes 26 [mR 30 0, mI x1, mI x2, mI x3, mI x4, mU] [] h
abbrev A7_changes_136 (K : Int → mH → Prop) (x1 x2 x3 x4 s0 : Int) (h : mH) : Prop := At (mPI K) M7_changes 136 [mR 30 0, mI x1, mI x2, mI x3, mI x4, mU] [mI s0] h
theorem s7_changes_26 {K : Int → mH → Prop} {x1 x2 x3 x4 : Int} {h : mH} (T : OkI M7_many [mR 30 0] h (fun v1 h1 => (mInR x4 ∧ mInR v1) ∧ (v1 ≤ x4 → (K x3 h1)) ∧ (¬ v1 ≤ x4 → ((mInR x1) ∧ (¬ x1 = 0 → ((mInR x1) ∧ (¬ x1 = 1 → ((mInR x1) ∧ (¬ x1 = 2 → (OkJ M7_rawBy [mR 30 0, mI x4, mI x2] h1 (fun v2 h2 => OkJ M7_upperEnd [mR 30 0, mI x4] h2 (fun v3 h3 => (mInL v2 ∧ mInL v3) ∧ (v2 ≤ v3 → (A7_changes_136 K x1 x2 x3 x4 0 h3)) ∧ (¬ v2 ≤ v3 → (A7_changes_136 K x1 x2 x3 x4 1 h3)))))) ∧ (x1 = 2 → (OkJ M7_rawBy [mR 30 0, mI x4, mI x2] h1 (fun v4 h4 => OkJ M7_lowerEnd [mR 30 0, mI x4] h4 (fun v5 h5 => (mInL v4 ∧ mInL v5) ∧ (v5 ≤ v4 → (A7_changes_136 K x1 x2 x3 x4 0 h5)) ∧ (¬ v5 ≤ v4 → (A7_changes_136 K x1 x2 x3 x4 1 h5)))))))) ∧ (x1 = 1 → (OkJ M7_changeBy [mR 30 0, mI x4, mI x2] h1 (fun v6 h6 => (mInL v6) ∧ (0 ≤ v6 → (A7_changes_136 K x1 x2 x3 x4 0 h6)) ∧ (¬ 0 ≤ v6 → (A7_changes_136 K x1 x2 x3 x4 1 h6))))))) ∧ (x1 = 0 → (OkJ M7_changeBy [mR 30 0, mI x4, mI x2] h1 (fun v7 h7 => (mInL v7) ∧ (v7 ≤ 0 → (A7_changes_136 K x1 x2 x3 x4 0 h7)) ∧ (¬ v7 ≤ 0 → (A7_changes_136 K x1 x2 x3 x4 1 h7))))))))) : A7_changes_26 K x1 x2 x3 x4 h := by
  refine mw_iload (dT d7_changes 17 rfl) rfl ?_
  refine mw_aload_n (dT d7_changes 18 rfl) rfl (by decide) ?_
  refine mw_callVI mv_7_many ml_X7_200 (by decide) (dT d7_changes 19 rfl) (as := []) rfl rfl T (fun v1 h1 T => ?_)
  obtain ⟨z, T1, T2⟩ := T
  refine mw_icmp_ge 157 (dT d7_changes 20 rfl) (by decide) z (fun z => ?_) (fun z => ?_)
  · have T := T1 z
    refine mw_iload_n (dT d7_changes 87 rfl) rfl ?_
    exact mw_iret rfl (dT d7_changes 88 rfl) ⟨_, rfl, T⟩
  · have T := T2 z
    refine mw_iload_n (dT d7_changes 21 rfl) rfl ?_
    obtain ⟨z, T1, T2⟩ := T
    refine mw_if_ne 59 (dT d7_changes 22 rfl) (by decide) z (fun z => ?_) (fun z => ?_)
    · have T := T1 z
      refine mw_iload_n (dT d7_changes 34 rfl) rfl ?_
      refine mw_iconst (dT d7_changes 35 rfl) ?_
      obtain ⟨z, T1, T2⟩ := T
      refine mw_icmp_ne 84 (dT d7_changes 36 rfl) (by decide) ⟨z, by decide⟩ (fun z => ?_) (fun z => ?_)
      · have T := T1 z
        refine mw_iload_n (dT d7_changes 48 rfl) rfl ?_
        refine mw_iconst (dT d7_changes 49 rfl) ?_
        obtain ⟨z, T1, T2⟩ := T
        refine mw_icmp_ne 114 (dT d7_changes 50 rfl) (by decide) ⟨z, by decide⟩ (fun z => ?_) (fun z => ?_)
        · have T := T1 z
          refine mw_aload_n (dT d7_changes 64 rfl) rfl (by decide) ?_
          refine mw_iload (dT d7_changes 65 rfl) rfl ?_
          refine mw_iload_n (dT d7_changes 66 rfl) rfl ?_
          refine mw_callVJ mv_7_rawBy ml_X7_319 (by decide) (dT d7_changes 67 rfl) (as := [mI _, mI _]) rfl rfl T (fun v2 h2 T => ?_)
          refine mw_aload_n (dT d7_changes 68 rfl) rfl (by decide) ?_
          refine mw_iload (dT d7_changes 69 rfl) rfl ?_
          refine mw_callVJ mv_7_upperEnd ml_X7_325 (by decide) (dT d7_changes 70 rfl) (as := [mI _]) rfl rfl T (fun v3 h3 T => ?_)
          obtain ⟨z, T1, T2⟩ := T
          refine mw_lif_le 135 (dT d7_changes 71 rfl) (dT d7_changes 72 rfl) (by decide) z (fun z => ?_) (fun z => ?_)
          · have T := T1 z
            refine mw_iconst (dT d7_changes 75 rfl) ?_
            exact T
          · have T := T2 z
            refine mw_iconst (dT d7_changes 73 rfl) ?_
            refine mw_goto 136 (dT d7_changes 74 rfl) (by decide) ?_
            exact T
        · have T := T2 z
          refine mw_aload_n (dT d7_changes 51 rfl) rfl (by decide) ?_
          refine mw_iload (dT d7_changes 52 rfl) rfl ?_
          refine mw_iload_n (dT d7_changes 53 rfl) rfl ?_
          refine mw_callVJ mv_7_rawBy ml_X7_319 (by decide) (dT d7_changes 54 rfl) (as := [mI _, mI _]) rfl rfl T (fun v4 h4 T => ?_)
          refine mw_aload_n (dT d7_changes 55 rfl) rfl (by decide) ?_
          refine mw_iload (dT d7_changes 56 rfl) rfl ?_
          refine mw_callVJ mv_7_lowerEnd ml_X7_322 (by decide) (dT d7_changes 57 rfl) (as := [mI _]) rfl rfl T (fun v5 h5 T => ?_)
          obtain ⟨z, T1, T2⟩ := T
          refine mw_lif_ge 110 (dT d7_changes 58 rfl) (dT d7_changes 59 rfl) (by decide) z (fun z => ?_) (fun z => ?_)
          · have T := T1 z
            refine mw_iconst (dT d7_changes 62 rfl) ?_
            refine mw_goto 136 (dT d7_changes 63 rfl) (by decide) ?_
            exact T
          · have T := T2 z
            refine mw_iconst (dT d7_changes 60 rfl) ?_
            refine mw_goto 136 (dT d7_changes 61 rfl) (by decide) ?_
            exact T
      · have T := T2 z
        refine mw_aload_n (dT d7_changes 37 rfl) rfl (by decide) ?_
        refine mw_iload (dT d7_changes 38 rfl) rfl ?_
        refine mw_iload_n (dT d7_changes 39 rfl) rfl ?_
        refine mw_callVJ mv_7_changeBy ml_X7_342 (by decide) (dT d7_changes 40 rfl) (as := [mI _, mI _]) rfl rfl T (fun v6 h6 T => ?_)
        refine mw_lconst (dT d7_changes 41 rfl) ?_
        obtain ⟨z, T1, T2⟩ := T
        refine mw_lif_ge 80 (dT d7_changes 42 rfl) (dT d7_changes 43 rfl) (by decide) ⟨z, by decide⟩ (fun z => ?_) (fun z => ?_)
        · have T := T1 z
          refine mw_iconst (dT d7_changes 46 rfl) ?_
          refine mw_goto 136 (dT d7_changes 47 rfl) (by decide) ?_
          exact T
        · have T := T2 z
          refine mw_iconst (dT d7_changes 44 rfl) ?_
          refine mw_goto 136 (dT d7_changes 45 rfl) (by decide) ?_
          exact T
    · have T := T2 z
      refine mw_aload_n (dT d7_changes 23 rfl) rfl (by decide) ?_
      refine mw_iload (dT d7_changes 24 rfl) rfl ?_
      refine mw_iload_n (dT d7_changes 25 rfl) rfl ?_
      refine mw_callVJ mv_7_changeBy ml_X7_342 (by decide) (dT d7_changes 26 rfl) (as := [mI _, mI _]) rfl rfl T (fun v7 h7 T => ?_)
      refine mw_lconst (dT d7_changes 27 rfl) ?_
      obtain ⟨z, T1, T2⟩ := T
      refine mw_lif_le 55 (dT d7_changes 28 rfl) (dT d7_changes 29 rfl) (by decide) ⟨z, by decide⟩ (fun z => ?_) (fun z => ?_)
      · have T := T1 z
        refine mw_iconst (dT d7_changes 32 rfl) ?_
        refine mw_goto 136 (dT d7_changes 33 rfl) (by decide) ?_
        exact T
      · have T := T2 z
        refine mw_iconst (dT d7_changes 30 rfl) ?_
        refine mw_goto 136 (dT d7_changes 31 rfl) (by decide) ?_
        exact T
theorem s7_changes_136 {K : Int → mH → Prop} {x1 x2 x3 x4 s0 : Int} {h : mH} (T : (mInR s0) ∧ (s0 = 0 → (A7_changes_26 K x1 x2 (x3 + 0) (x4 + 1) h)) ∧ (¬ s0 = 0 → (A7_changes_26 K x1 x2 (x3 + 1) (x4 + 1) h))) : A7_changes_136 K x1 x2 x3 x4 s0 h := by
  refine mw_istore (dT d7_changes 76 rfl) (by decide) ?_
  refine mw_iload_n (dT d7_changes 77 rfl) rfl ?_
  refine mw_iload (dT d7_changes 78 rfl) rfl ?_
  obtain ⟨z, T1, T2⟩ := T
  refine mw_if_eq 148 (dT d7_changes 79 rfl) (by decide) z (fun z => ?_) (fun z => ?_)
  · have T := T1 z
    refine mw_iconst (dT d7_changes 82 rfl) ?_
    refine mw_iadd (dT d7_changes 83 rfl) ?_
    refine mw_istore_n (dT d7_changes 84 rfl) (by decide) ?_
    refine mw_iinc (dT d7_changes 85 rfl) rfl (by decide) ?_
    refine mw_goto 26 (dT d7_changes 86 rfl) (by decide) ?_
    exact At.forget [5] T
  · have T := T2 z
    refine mw_iconst (dT d7_changes 80 rfl) ?_
    refine mw_goto 149 (dT d7_changes 81 rfl) (by decide) ?_
    refine mw_iadd (dT d7_changes 83 rfl) ?_
    refine mw_istore_n (dT d7_changes 84 rfl) (by decide) ?_
    refine mw_iinc (dT d7_changes 85 rfl) rfl (by decide) ?_
    refine mw_goto 26 (dT d7_changes 86 rfl) (by decide) ?_
    exact At.forget [5] T
theorem s7_changes {K : Int → mH → Prop} {x1 : Int} {h : mH} (T : ∀ h1 : mH, h1 = mSet h 30 0 0 0 → ((mInR x1) ∧ (x1 < 0 → (K ((-1)) h1)) ∧ (¬ x1 < 0 → ((mInR x1) ∧ (x1 ≤ 3 → (OkI M7_byNow [mR 30 0] h1 (fun v1 h2 => A7_changes_26 K x1 v1 0 0 h2))) ∧ (¬ x1 ≤ 3 → (K ((-1)) h1)))))) : OkI M7_changes [mR 30 0, mI x1] h K := by
  refine Ok.of rfl (n := 4) rfl ?_
  show At (mPI K) M7_changes 0 [mR 30 0, mI x1, mU, mU, mU, mU] [] h
  refine mw_aload_n (dT d7_changes 0 rfl) rfl (by decide) ?_
  refine mw_iconst (dT d7_changes 1 rfl) ?_
  have T := T _ rfl
  refine mw_putI fp_X7_69 (dT d7_changes 2 rfl) ?_
  refine mw_iload_n (dT d7_changes 3 rfl) rfl ?_
  obtain ⟨z, T1, T2⟩ := T
  refine mw_if_lt 14 (dT d7_changes 4 rfl) (by decide) z (fun z => ?_) (fun z => ?_)
  · have T := T1 z
    refine mw_iconst (dT d7_changes 8 rfl) ?_
    exact mw_iret rfl (dT d7_changes 9 rfl) ⟨_, rfl, T⟩
  · have T := T2 z
    refine mw_iload_n (dT d7_changes 5 rfl) rfl ?_
    refine mw_iconst (dT d7_changes 6 rfl) ?_
    obtain ⟨z, T1, T2⟩ := T
    refine mw_icmp_le 16 (dT d7_changes 7 rfl) (by decide) ⟨z, by decide⟩ (fun z => ?_) (fun z => ?_)
    · have T := T1 z
      refine mw_aload_n (dT d7_changes 10 rfl) rfl (by decide) ?_
      refine mw_callVI mv_7_byNow ml_X7_339 (by decide) (dT d7_changes 11 rfl) (as := []) rfl rfl T (fun v1 h2 T => ?_)
      refine mw_istore_n (dT d7_changes 12 rfl) (by decide) ?_
      refine mw_iconst (dT d7_changes 13 rfl) ?_
      refine mw_istore_n (dT d7_changes 14 rfl) (by decide) ?_
      refine mw_iconst (dT d7_changes 15 rfl) ?_
      refine mw_istore (dT d7_changes 16 rfl) (by decide) ?_
      exact T
    · have T := T2 z
      refine mw_iconst (dT d7_changes 8 rfl) ?_
      exact mw_iret rfl (dT d7_changes 9 rfl) ⟨_, rfl, T⟩
abbrev A7_hardest_27 (K : Int → mH → Prop) (x1 x2 x3 x4 : Int) (h : mH) : Prop := At (mPI K) M7_hardest 27 [mR 30 0, mI x1, mI x2, mI x3, mI x4] [] h
theorem s7_hardest_27 {K : Int → mH → Prop} {x1 x2 x3 x4 : Int} {h : mH} (T : OkI M7_many [mR 30 0] h (fun v1 h1 => (mInR x4 ∧ mInR v1) ∧ (v1 ≤ x4 → (K x3 h1)) ∧ (¬ v1 ≤ x4 → ((mInR x3) ∧ (x3 = ((-2)) → (A7_hardest_27 K x1 x2 x4 (x4 + 1) h1)) ∧ (¬ x3 = ((-2)) → ((mInR x1) ∧ (¬ x1 = 0 → (OkJ M7_changeBy [mR 30 0, mI x4, mI x2] h1 (fun v2 h2 => OkJ M7_changeBy [mR 30 0, mI x3, mI x2] h2 (fun v3 h3 => (mInL v2 ∧ mInL v3) ∧ (v3 ≤ v2 → (A7_hardest_27 K x1 x2 x3 (x4 + 1) h3)) ∧ (¬ v3 ≤ v2 → (A7_hardest_27 K x1 x2 x4 (x4 + 1) h3)))))) ∧ (x1 = 0 → (OkJ M7_changeBy [mR 30 0, mI x4, mI x2] h1 (fun v4 h4 => OkJ M7_changeBy [mR 30 0, mI x3, mI x2] h4 (fun v5 h5 => (mInL v4 ∧ mInL v5) ∧ (v4 ≤ v5 → (A7_hardest_27 K x1 x2 x3 (x4 + 1) h5)) ∧ (¬ v4 ≤ v5 → (A7_hardest_27 K x1 x2 x4 (x4 + 1) h5)))))))))))) : A7_hardest_27 K x1 x2 x3 x4 h := by
  refine mw_iload (dT d7_hardest 17 rfl) rfl ?_
  refine mw_aload_n (dT d7_hardest 18 rfl) rfl (by decide) ?_
  refine mw_callVI mv_7_many ml_X7_200 (by decide) (dT d7_hardest 19 rfl) (as := []) rfl rfl T (fun v1 h1 T => ?_)
  obtain ⟨z, T1, T2⟩ := T
  refine mw_icmp_ge 92 (dT d7_hardest 20 rfl) (by decide) z (fun z => ?_) (fun z => ?_)
  · have T := T1 z
    refine mw_iload_n (dT d7_hardest 51 rfl) rfl ?_
    exact mw_iret rfl (dT d7_hardest 52 rfl) ⟨_, rfl, T⟩
  · have T := T2 z
    refine mw_iload_n (dT d7_hardest 21 rfl) rfl ?_
    refine mw_bipush (by decide) (dT d7_hardest 22 rfl) ?_
    obtain ⟨z, T1, T2⟩ := T
    refine mw_icmp_eq 83 (dT d7_hardest 23 rfl) (by decide) ⟨z, by decide⟩ (fun z => ?_) (fun z => ?_)
    · have T := T1 z
      refine mw_iload (dT d7_hardest 47 rfl) rfl ?_
      refine mw_istore_n (dT d7_hardest 48 rfl) (by decide) ?_
      refine mw_iinc (dT d7_hardest 49 rfl) rfl (by decide) ?_
      refine mw_goto 27 (dT d7_hardest 50 rfl) (by decide) ?_
      exact T
    · have T := T2 z
      refine mw_iload_n (dT d7_hardest 24 rfl) rfl ?_
      obtain ⟨z, T1, T2⟩ := T
      refine mw_if_ne 66 (dT d7_hardest 25 rfl) (by decide) z (fun z => ?_) (fun z => ?_)
      · have T := T1 z
        refine mw_aload_n (dT d7_hardest 37 rfl) rfl (by decide) ?_
        refine mw_iload (dT d7_hardest 38 rfl) rfl ?_
        refine mw_iload_n (dT d7_hardest 39 rfl) rfl ?_
        refine mw_callVJ mv_7_changeBy ml_X7_342 (by decide) (dT d7_hardest 40 rfl) (as := [mI _, mI _]) rfl rfl T (fun v2 h2 T => ?_)
        refine mw_aload_n (dT d7_hardest 41 rfl) rfl (by decide) ?_
        refine mw_iload_n (dT d7_hardest 42 rfl) rfl ?_
        refine mw_iload_n (dT d7_hardest 43 rfl) rfl ?_
        refine mw_callVJ mv_7_changeBy ml_X7_342 (by decide) (dT d7_hardest 44 rfl) (as := [mI _, mI _]) rfl rfl T (fun v3 h3 T => ?_)
        obtain ⟨z, T1, T2⟩ := T
        refine mw_lif_ge 86 (dT d7_hardest 45 rfl) (dT d7_hardest 46 rfl) (by decide) z (fun z => ?_) (fun z => ?_)
        · have T := T1 z
          refine mw_iinc (dT d7_hardest 49 rfl) rfl (by decide) ?_
          refine mw_goto 27 (dT d7_hardest 50 rfl) (by decide) ?_
          exact T
        · have T := T2 z
          refine mw_iload (dT d7_hardest 47 rfl) rfl ?_
          refine mw_istore_n (dT d7_hardest 48 rfl) (by decide) ?_
          refine mw_iinc (dT d7_hardest 49 rfl) rfl (by decide) ?_
          refine mw_goto 27 (dT d7_hardest 50 rfl) (by decide) ?_
          exact T
      · have T := T2 z
        refine mw_aload_n (dT d7_hardest 26 rfl) rfl (by decide) ?_
        refine mw_iload (dT d7_hardest 27 rfl) rfl ?_
        refine mw_iload_n (dT d7_hardest 28 rfl) rfl ?_
        refine mw_callVJ mv_7_changeBy ml_X7_342 (by decide) (dT d7_hardest 29 rfl) (as := [mI _, mI _]) rfl rfl T (fun v4 h4 T => ?_)
        refine mw_aload_n (dT d7_hardest 30 rfl) rfl (by decide) ?_
        refine mw_iload_n (dT d7_hardest 31 rfl) rfl ?_
        refine mw_iload_n (dT d7_hardest 32 rfl) rfl ?_
        refine mw_callVJ mv_7_changeBy ml_X7_342 (by decide) (dT d7_hardest 33 rfl) (as := [mI _, mI _]) rfl rfl T (fun v5 h5 T => ?_)
        obtain ⟨z, T1, T2⟩ := T
        refine mw_lif_le 86 (dT d7_hardest 34 rfl) (dT d7_hardest 35 rfl) (by decide) z (fun z => ?_) (fun z => ?_)
        · have T := T1 z
          refine mw_iinc (dT d7_hardest 49 rfl) rfl (by decide) ?_
          refine mw_goto 27 (dT d7_hardest 50 rfl) (by decide) ?_
          exact T
        · have T := T2 z
          refine mw_goto 83 (dT d7_hardest 36 rfl) (by decide) ?_
          refine mw_iload (dT d7_hardest 47 rfl) rfl ?_
          refine mw_istore_n (dT d7_hardest 48 rfl) (by decide) ?_
          refine mw_iinc (dT d7_hardest 49 rfl) rfl (by decide) ?_
          refine mw_goto 27 (dT d7_hardest 50 rfl) (by decide) ?_
          exact T
theorem s7_hardest {K : Int → mH → Prop} {x1 : Int} {h : mH} (T : ∀ h1 : mH, h1 = mSet h 30 0 0 0 → ((mInR x1) ∧ (x1 < 0 → (K ((-1)) h1)) ∧ (¬ x1 < 0 → ((mInR x1) ∧ (x1 ≤ 1 → (OkI M7_byNow [mR 30 0] h1 (fun v1 h2 => A7_hardest_27 K x1 v1 ((-2)) 0 h2))) ∧ (¬ x1 ≤ 1 → (K ((-1)) h1)))))) : OkI M7_hardest [mR 30 0, mI x1] h K := by
  refine Ok.of rfl (n := 3) rfl ?_
  show At (mPI K) M7_hardest 0 [mR 30 0, mI x1, mU, mU, mU] [] h
  refine mw_aload_n (dT d7_hardest 0 rfl) rfl (by decide) ?_
  refine mw_iconst (dT d7_hardest 1 rfl) ?_
  have T := T _ rfl
  refine mw_putI fp_X7_69 (dT d7_hardest 2 rfl) ?_
  refine mw_iload_n (dT d7_hardest 3 rfl) rfl ?_
  obtain ⟨z, T1, T2⟩ := T
  refine mw_if_lt 14 (dT d7_hardest 4 rfl) (by decide) z (fun z => ?_) (fun z => ?_)
  · have T := T1 z
    refine mw_iconst (dT d7_hardest 8 rfl) ?_
    exact mw_iret rfl (dT d7_hardest 9 rfl) ⟨_, rfl, T⟩
  · have T := T2 z
    refine mw_iload_n (dT d7_hardest 5 rfl) rfl ?_
    refine mw_iconst (dT d7_hardest 6 rfl) ?_
    obtain ⟨z, T1, T2⟩ := T
    refine mw_icmp_le 16 (dT d7_hardest 7 rfl) (by decide) ⟨z, by decide⟩ (fun z => ?_) (fun z => ?_)
    · have T := T1 z
      refine mw_aload_n (dT d7_hardest 10 rfl) rfl (by decide) ?_
      refine mw_callVI mv_7_byNow ml_X7_339 (by decide) (dT d7_hardest 11 rfl) (as := []) rfl rfl T (fun v1 h2 T => ?_)
      refine mw_istore_n (dT d7_hardest 12 rfl) (by decide) ?_
      refine mw_bipush (by decide) (dT d7_hardest 13 rfl) ?_
      refine mw_istore_n (dT d7_hardest 14 rfl) (by decide) ?_
      refine mw_iconst (dT d7_hardest 15 rfl) ?_
      refine mw_istore (dT d7_hardest 16 rfl) (by decide) ?_
      exact T
    · have T := T2 z
      refine mw_iconst (dT d7_hardest 8 rfl) ?_
      exact mw_iret rfl (dT d7_hardest 9 rfl) ⟨_, rfl, T⟩
abbrev A7_ranked_18 (K : Int → mH → Prop) (x1 x2 x3 : Int) (h : mH) : Prop := At (mPI K) M7_ranked 18 [mR 30 0, mI x1, mI x2, mI x3, mU, mU, mU, mU] [] h
abbrev A7_ranked_32 (K : Int → mH → Prop) (x1 x2 x3 x4 x5 : Int) (h : mH) : Prop := At (mPI K) M7_ranked 32 [mR 30 0, mI x1, mI x2, mI x3, mI x4, mI x5, mU, mU] [] h
theorem s7_ranked_18 {K : Int → mH → Prop} {x1 x2 x3 : Int} {h : mH} (T : OkI M7_many [mR 30 0] h (fun v1 h1 => (mInR x3 ∧ mInR v1) ∧ (v1 ≤ x3 → (K ((-2)) h1)) ∧ (¬ v1 ≤ x3 → (A7_ranked_32 K x1 x2 x3 0 0 h1)))) : A7_ranked_18 K x1 x2 x3 h := by
  refine mw_iload_n (dT d7_ranked 12 rfl) rfl ?_
  refine mw_aload_n (dT d7_ranked 13 rfl) rfl (by decide) ?_
  refine mw_callVI mv_7_many ml_X7_200 (by decide) (dT d7_ranked 14 rfl) (as := []) rfl rfl T (fun v1 h1 T => ?_)
  obtain ⟨z, T1, T2⟩ := T
  refine mw_icmp_ge 107 (dT d7_ranked 15 rfl) (by decide) z (fun z => ?_) (fun z => ?_)
  · have T := T1 z
    refine mw_bipush (by decide) (dT d7_ranked 60 rfl) ?_
    exact mw_iret rfl (dT d7_ranked 61 rfl) ⟨_, rfl, T⟩
  · have T := T2 z
    refine mw_iconst (dT d7_ranked 16 rfl) ?_
    refine mw_istore (dT d7_ranked 17 rfl) (by decide) ?_
    refine mw_iconst (dT d7_ranked 18 rfl) ?_
    refine mw_istore (dT d7_ranked 19 rfl) (by decide) ?_
    exact T
theorem s7_ranked_32 {K : Int → mH → Prop} {x1 x2 x3 x4 x5 : Int} {h : mH} (T : OkI M7_many [mR 30 0] h (fun v1 h1 => (mInR x5 ∧ mInR v1) ∧ (v1 ≤ x5 → ((mInR x4 ∧ mInR x1) ∧ (¬ x4 = x1 → (A7_ranked_18 K x1 x2 (x3 + 1) h1)) ∧ (x4 = x1 → (K x3 h1)))) ∧ (¬ v1 ≤ x5 → (OkJ M7_changeBy [mR 30 0, mI x5, mI x2] h1 (fun v2 h2 => OkJ M7_changeBy [mR 30 0, mI x3, mI x2] h2 (fun v3 h3 => (mInL (v2 - v3)) ∧ ((v2 - v3) < 0 → (A7_ranked_32 K x1 x2 x3 (x4 + 1) (x5 + 1) h3)) ∧ (¬ (v2 - v3) < 0 → ((mInL (v2 - v3)) ∧ (¬ (v2 - v3) = 0 → (A7_ranked_32 K x1 x2 x3 (x4 + 0) (x5 + 1) h3)) ∧ ((v2 - v3) = 0 → ((mInR x5 ∧ mInR x3) ∧ (x3 ≤ x5 → (A7_ranked_32 K x1 x2 x3 (x4 + 0) (x5 + 1) h3)) ∧ (¬ x3 ≤ x5 → (A7_ranked_32 K x1 x2 x3 (x4 + 1) (x5 + 1) h3)))))))))))) : A7_ranked_32 K x1 x2 x3 x4 x5 h := by
  refine mw_iload (dT d7_ranked 20 rfl) rfl ?_
  refine mw_aload_n (dT d7_ranked 21 rfl) rfl (by decide) ?_
  refine mw_callVI mv_7_many ml_X7_200 (by decide) (dT d7_ranked 22 rfl) (as := []) rfl rfl T (fun v1 h1 T => ?_)
  obtain ⟨z, T1, T2⟩ := T
  refine mw_icmp_ge 93 (dT d7_ranked 23 rfl) (by decide) z (fun z => ?_) (fun z => ?_)
  · have T := T1 z
    refine mw_iload (dT d7_ranked 53 rfl) rfl ?_
    refine mw_iload_n (dT d7_ranked 54 rfl) rfl ?_
    obtain ⟨z, T1, T2⟩ := T
    refine mw_icmp_ne 101 (dT d7_ranked 55 rfl) (by decide) z (fun z => ?_) (fun z => ?_)
    · have T := T1 z
      refine mw_iinc (dT d7_ranked 58 rfl) rfl (by decide) ?_
      refine mw_goto 18 (dT d7_ranked 59 rfl) (by decide) ?_
      exact At.forget [4, 5] T
    · have T := T2 z
      refine mw_iload_n (dT d7_ranked 56 rfl) rfl ?_
      exact mw_iret rfl (dT d7_ranked 57 rfl) ⟨_, rfl, T⟩
  · have T := T2 z
    refine mw_aload_n (dT d7_ranked 24 rfl) rfl (by decide) ?_
    refine mw_iload (dT d7_ranked 25 rfl) rfl ?_
    refine mw_iload_n (dT d7_ranked 26 rfl) rfl ?_
    refine mw_callVJ mv_7_changeBy ml_X7_342 (by decide) (dT d7_ranked 27 rfl) (as := [mI _, mI _]) rfl rfl T (fun v2 h2 T => ?_)
    refine mw_aload_n (dT d7_ranked 28 rfl) rfl (by decide) ?_
    refine mw_iload_n (dT d7_ranked 29 rfl) rfl ?_
    refine mw_iload_n (dT d7_ranked 30 rfl) rfl ?_
    refine mw_callVJ mv_7_changeBy ml_X7_342 (by decide) (dT d7_ranked 31 rfl) (as := [mI _, mI _]) rfl rfl T (fun v3 h3 T => ?_)
    refine mw_lsub (dT d7_ranked 32 rfl) ?_
    refine mw_lstore (dT d7_ranked 33 rfl) (by decide) ?_
    refine mw_iload (dT d7_ranked 34 rfl) rfl ?_
    refine mw_lload (dT d7_ranked 35 rfl) rfl ?_
    refine mw_lconst (dT d7_ranked 36 rfl) ?_
    obtain ⟨z, T1, T2⟩ := T
    refine mw_lif_lt 79 (dT d7_ranked 37 rfl) (dT d7_ranked 38 rfl) (by decide) ⟨z, by decide⟩ (fun z => ?_) (fun z => ?_)
    · have T := T1 z
      refine mw_iconst (dT d7_ranked 46 rfl) ?_
      refine mw_goto 84 (dT d7_ranked 47 rfl) (by decide) ?_
      refine mw_iadd (dT d7_ranked 49 rfl) ?_
      refine mw_istore (dT d7_ranked 50 rfl) (by decide) ?_
      refine mw_iinc (dT d7_ranked 51 rfl) rfl (by decide) ?_
      refine mw_goto 32 (dT d7_ranked 52 rfl) (by decide) ?_
      exact At.forget [6] T
    · have T := T2 z
      refine mw_lload (dT d7_ranked 39 rfl) rfl ?_
      refine mw_lconst (dT d7_ranked 40 rfl) ?_
      obtain ⟨z, T1, T2⟩ := T
      refine mw_lif_ne 83 (dT d7_ranked 41 rfl) (dT d7_ranked 42 rfl) (by decide) ⟨z, by decide⟩ (fun z => ?_) (fun z => ?_)
      · have T := T1 z
        refine mw_iconst (dT d7_ranked 48 rfl) ?_
        refine mw_iadd (dT d7_ranked 49 rfl) ?_
        refine mw_istore (dT d7_ranked 50 rfl) (by decide) ?_
        refine mw_iinc (dT d7_ranked 51 rfl) rfl (by decide) ?_
        refine mw_goto 32 (dT d7_ranked 52 rfl) (by decide) ?_
        exact At.forget [6] T
      · have T := T2 z
        refine mw_iload (dT d7_ranked 43 rfl) rfl ?_
        refine mw_iload_n (dT d7_ranked 44 rfl) rfl ?_
        obtain ⟨z, T1, T2⟩ := T
        refine mw_icmp_ge 83 (dT d7_ranked 45 rfl) (by decide) z (fun z => ?_) (fun z => ?_)
        · have T := T1 z
          refine mw_iconst (dT d7_ranked 48 rfl) ?_
          refine mw_iadd (dT d7_ranked 49 rfl) ?_
          refine mw_istore (dT d7_ranked 50 rfl) (by decide) ?_
          refine mw_iinc (dT d7_ranked 51 rfl) rfl (by decide) ?_
          refine mw_goto 32 (dT d7_ranked 52 rfl) (by decide) ?_
          exact At.forget [6] T
        · have T := T2 z
          refine mw_iconst (dT d7_ranked 46 rfl) ?_
          refine mw_goto 84 (dT d7_ranked 47 rfl) (by decide) ?_
          refine mw_iadd (dT d7_ranked 49 rfl) ?_
          refine mw_istore (dT d7_ranked 50 rfl) (by decide) ?_
          refine mw_iinc (dT d7_ranked 51 rfl) rfl (by decide) ?_
          refine mw_goto 32 (dT d7_ranked 52 rfl) (by decide) ?_
          exact At.forget [6] T
theorem s7_ranked {K : Int → mH → Prop} {x1 : Int} {h : mH} (T : ∀ h1 : mH, h1 = mSet h 30 0 0 0 → ((mInR x1) ∧ (0 ≤ x1 → (OkI M7_byNow [mR 30 0] h1 (fun v1 h2 => A7_ranked_18 K x1 v1 0 h2))) ∧ (¬ 0 ≤ x1 → (K ((-1)) h1)))) : OkI M7_ranked [mR 30 0, mI x1] h K := by
  refine Ok.of rfl (n := 6) rfl ?_
  show At (mPI K) M7_ranked 0 [mR 30 0, mI x1, mU, mU, mU, mU, mU, mU] [] h
  refine mw_aload_n (dT d7_ranked 0 rfl) rfl (by decide) ?_
  refine mw_iconst (dT d7_ranked 1 rfl) ?_
  have T := T _ rfl
  refine mw_putI fp_X7_69 (dT d7_ranked 2 rfl) ?_
  refine mw_iload_n (dT d7_ranked 3 rfl) rfl ?_
  obtain ⟨z, T1, T2⟩ := T
  refine mw_if_ge 11 (dT d7_ranked 4 rfl) (by decide) z (fun z => ?_) (fun z => ?_)
  · have T := T1 z
    refine mw_aload_n (dT d7_ranked 7 rfl) rfl (by decide) ?_
    refine mw_callVI mv_7_byNow ml_X7_339 (by decide) (dT d7_ranked 8 rfl) (as := []) rfl rfl T (fun v1 h2 T => ?_)
    refine mw_istore_n (dT d7_ranked 9 rfl) (by decide) ?_
    refine mw_iconst (dT d7_ranked 10 rfl) ?_
    refine mw_istore_n (dT d7_ranked 11 rfl) (by decide) ?_
    exact T
  · have T := T2 z
    refine mw_iconst (dT d7_ranked 5 rfl) ?_
    exact mw_iret rfl (dT d7_ranked 6 rfl) ⟨_, rfl, T⟩
theorem s7_goesAside {K : mH → Prop} {h : mH} (T : OkV M7_copies [mR 41 0, mI 0, mR 42 0, mI 0] h (fun h1 => K h1)) : OkV M7_goesAside [mR 30 0] h K := by
  refine Ok.of rfl (n := 0) rfl ?_
  show At (mPV K) M7_goesAside 0 [mR 30 0] [] h
  refine mw_aload_n (dT d7_goesAside 0 rfl) rfl (by decide) ?_
  refine mw_getR fl_X7_45 (dT d7_goesAside 1 rfl) ?_
  refine mw_iconst (dT d7_goesAside 2 rfl) ?_
  refine mw_aload_n (dT d7_goesAside 3 rfl) rfl (by decide) ?_
  refine mw_getR fl_X7_48 (dT d7_goesAside 4 rfl) ?_
  refine mw_iconst (dT d7_goesAside 5 rfl) ?_
  refine mw_callSV mt_7_copies ml_X7_196 (by decide) (dT d7_goesAside 6 rfl) (as := [mR 41 _, mI _, mR 42 _, mI _]) rfl rfl T (fun h1 T => ?_)
  exact mw_vret rfl (dT d7_goesAside 7 rfl) ⟨rfl, T⟩
theorem s7_comesBack {K : mH → Prop} {h : mH} (T : OkV M7_copies [mR 42 0, mI 0, mR 41 0, mI 0] h (fun h1 => K h1)) : OkV M7_comesBack [mR 30 0] h K := by
  refine Ok.of rfl (n := 0) rfl ?_
  show At (mPV K) M7_comesBack 0 [mR 30 0] [] h
  refine mw_aload_n (dT d7_comesBack 0 rfl) rfl (by decide) ?_
  refine mw_getR fl_X7_48 (dT d7_comesBack 1 rfl) ?_
  refine mw_iconst (dT d7_comesBack 2 rfl) ?_
  refine mw_aload_n (dT d7_comesBack 3 rfl) rfl (by decide) ?_
  refine mw_getR fl_X7_45 (dT d7_comesBack 4 rfl) ?_
  refine mw_iconst (dT d7_comesBack 5 rfl) ?_
  refine mw_callSV mt_7_copies ml_X7_196 (by decide) (dT d7_comesBack 6 rfl) (as := [mR 42 _, mI _, mR 41 _, mI _]) rfl rfl T (fun h1 T => ?_)
  exact mw_vret rfl (dT d7_comesBack 7 rfl) ⟨rfl, T⟩
abbrev A7_leastCap_27 (K : Int → mH → Prop) (x1 x2 x4 x5 : Int) (h : mH) : Prop := At (mPI K) M7_leastCap 27 [mR 30 0, mI x1, mJ x2, mU, mI x4, mI x5] [] h
theorem s7_leastCap_27 {K : Int → mH → Prop} {x1 x2 x4 x5 : Int} {h : mH} (T : (mInR x5) ∧ (999 < x5 → (∀ h1 : mH, h1 = mSet h 41 0 309 x1 → (K x4 h1))) ∧ (¬ 999 < x5 → ((mInR x4) ∧ (¬ x4 = ((-2)) → (∀ h2 : mH, h2 = mSet h 41 0 309 x1 → (K x4 h2))) ∧ (x4 = ((-2)) → (∀ h3 : mH, h3 = mSet h 41 0 309 x5 → (OkJ M7_allCapped [mR 30 0, mI 99999] h3 (fun v1 h4 => (mInL v1 ∧ mInL x2) ∧ (v1 < x2 → (A7_leastCap_27 K x1 x2 x4 (x5 + 1) h4)) ∧ (¬ v1 < x2 → (A7_leastCap_27 K x1 x2 x5 (x5 + 1) h4))))))))) : A7_leastCap_27 K x1 x2 x4 x5 h := by
  refine mw_iload (dT d7_leastCap 16 rfl) rfl ?_
  refine mw_sipush (by decide) (dT d7_leastCap 17 rfl) ?_
  obtain ⟨z, T1, T2⟩ := T
  refine mw_icmp_gt 73 (dT d7_leastCap 18 rfl) (by decide) ⟨z, by decide⟩ (fun z => ?_) (fun z => ?_)
  · have T := T1 z
    refine mw_aload_n (dT d7_leastCap 37 rfl) rfl (by decide) ?_
    refine mw_getR fl_X7_45 (dT d7_leastCap 38 rfl) ?_
    refine mw_sipush (by decide) (dT d7_leastCap 39 rfl) ?_
    refine mw_iload_n (dT d7_leastCap 40 rfl) rfl ?_
    have T := T _ rfl
    refine mw_iastore ro_41 (dT d7_leastCap 41 rfl) (by decide) ?_
    refine mw_iload (dT d7_leastCap 42 rfl) rfl ?_
    exact mw_iret rfl (dT d7_leastCap 43 rfl) ⟨_, rfl, T⟩
  · have T := T2 z
    refine mw_iload (dT d7_leastCap 19 rfl) rfl ?_
    refine mw_bipush (by decide) (dT d7_leastCap 20 rfl) ?_
    obtain ⟨z, T1, T2⟩ := T
    refine mw_icmp_ne 73 (dT d7_leastCap 21 rfl) (by decide) ⟨z, by decide⟩ (fun z => ?_) (fun z => ?_)
    · have T := T1 z
      refine mw_aload_n (dT d7_leastCap 37 rfl) rfl (by decide) ?_
      refine mw_getR fl_X7_45 (dT d7_leastCap 38 rfl) ?_
      refine mw_sipush (by decide) (dT d7_leastCap 39 rfl) ?_
      refine mw_iload_n (dT d7_leastCap 40 rfl) rfl ?_
      have T := T _ rfl
      refine mw_iastore ro_41 (dT d7_leastCap 41 rfl) (by decide) ?_
      refine mw_iload (dT d7_leastCap 42 rfl) rfl ?_
      exact mw_iret rfl (dT d7_leastCap 43 rfl) ⟨_, rfl, T⟩
    · have T := T2 z
      refine mw_aload_n (dT d7_leastCap 22 rfl) rfl (by decide) ?_
      refine mw_getR fl_X7_45 (dT d7_leastCap 23 rfl) ?_
      refine mw_sipush (by decide) (dT d7_leastCap 24 rfl) ?_
      refine mw_iload (dT d7_leastCap 25 rfl) rfl ?_
      have T := T _ rfl
      refine mw_iastore ro_41 (dT d7_leastCap 26 rfl) (by decide) ?_
      refine mw_aload_n (dT d7_leastCap 27 rfl) rfl (by decide) ?_
      refine mw_ldc kc_X7_107 (dT d7_leastCap 28 rfl) ?_
      refine mw_callVJ mv_7_allCapped ml_X7_331 (by decide) (dT d7_leastCap 29 rfl) (as := [mI _]) rfl rfl T (fun v1 h4 T => ?_)
      refine mw_lload_n (dT d7_leastCap 30 rfl) rfl ?_
      obtain ⟨z, T1, T2⟩ := T
      refine mw_lif_lt 67 (dT d7_leastCap 31 rfl) (dT d7_leastCap 32 rfl) (by decide) z (fun z => ?_) (fun z => ?_)
      · have T := T1 z
        refine mw_iinc (dT d7_leastCap 35 rfl) rfl (by decide) ?_
        refine mw_goto 27 (dT d7_leastCap 36 rfl) (by decide) ?_
        exact T
      · have T := T2 z
        refine mw_iload (dT d7_leastCap 33 rfl) rfl ?_
        refine mw_istore (dT d7_leastCap 34 rfl) (by decide) ?_
        refine mw_iinc (dT d7_leastCap 35 rfl) rfl (by decide) ?_
        refine mw_goto 27 (dT d7_leastCap 36 rfl) (by decide) ?_
        exact T
theorem s7_leastCap {K : Int → mH → Prop} {h : mH} (T : ∀ h1 : mH, h1 = mSet h 30 0 0 0 → (OkJ M7_allOf [mR 30 0, mI 1] h1 (fun v1 h2 => A7_leastCap_27 K (h1 41 0 309) v1 ((-2)) 0 h2))) : OkI M7_leastCap [mR 30 0] h K := by
  refine Ok.of rfl (n := 5) rfl ?_
  show At (mPI K) M7_leastCap 0 [mR 30 0, mU, mU, mU, mU, mU] [] h
  refine mw_aload_n (dT d7_leastCap 0 rfl) rfl (by decide) ?_
  refine mw_iconst (dT d7_leastCap 1 rfl) ?_
  have T := T _ rfl
  refine mw_putI fp_X7_69 (dT d7_leastCap 2 rfl) ?_
  refine mw_aload_n (dT d7_leastCap 3 rfl) rfl (by decide) ?_
  refine mw_getR fl_X7_45 (dT d7_leastCap 4 rfl) ?_
  refine mw_sipush (by decide) (dT d7_leastCap 5 rfl) ?_
  refine mw_iaload ro_41 (dT d7_leastCap 6 rfl) (by decide) ?_
  refine mw_istore_n (dT d7_leastCap 7 rfl) (by decide) ?_
  refine mw_aload_n (dT d7_leastCap 8 rfl) rfl (by decide) ?_
  refine mw_iconst (dT d7_leastCap 9 rfl) ?_
  refine mw_callVJ mv_7_allOf ml_X7_273 (by decide) (dT d7_leastCap 10 rfl) (as := [mI _]) rfl rfl T (fun v1 h2 T => ?_)
  refine mw_lstore_n (dT d7_leastCap 11 rfl) (by decide) ?_
  refine mw_bipush (by decide) (dT d7_leastCap 12 rfl) ?_
  refine mw_istore (dT d7_leastCap 13 rfl) (by decide) ?_
  refine mw_iconst (dT d7_leastCap 14 rfl) ?_
  refine mw_istore (dT d7_leastCap 15 rfl) (by decide) ?_
  exact T
abbrev A7_fitted_26 (K : Int → mH → Prop) (x1 x2 x3 : Int) (h : mH) : Prop := At (mPI K) M7_fitted 26 [mR 30 0, mI x1, mI x2, mI x3] [] h
theorem s7_fitted_26 {K : Int → mH → Prop} {x1 x2 x3 : Int} {h : mH} (T : (mInR x3 ∧ mInR x1) ∧ (x1 < x3 → (OkV M7_comesBack [mR 30 0] h (fun h1 => K x2 h1))) ∧ (¬ x1 < x3 → ((mInR x2) ∧ (¬ x2 = ((-2)) → (OkV M7_comesBack [mR 30 0] h (fun h2 => K x2 h2))) ∧ (x2 = ((-2)) → (OkI M7_unbalancedNow [mR 30 0] h (fun v1 h3 => (mInR v1) ∧ (¬ v1 = 0 → (OkV M7_rounds [mR 30 0, mI 1, mI ((-1))] h3 (fun h4 => A7_fitted_26 K x1 x2 (x3 + 1) h4))) ∧ (v1 = 0 → (A7_fitted_26 K x1 x3 (x3 + 1) h3)))))))) : A7_fitted_26 K x1 x2 x3 h := by
  refine mw_iload_n (dT d7_fitted 16 rfl) rfl ?_
  refine mw_iload_n (dT d7_fitted 17 rfl) rfl ?_
  obtain ⟨z, T1, T2⟩ := T
  refine mw_icmp_gt 61 (dT d7_fitted 18 rfl) (by decide) z (fun z => ?_) (fun z => ?_)
  · have T := T1 z
    refine mw_aload_n (dT d7_fitted 34 rfl) rfl (by decide) ?_
    refine mw_callVV mv_7_comesBack ml_X7_351 (by decide) (dT d7_fitted 35 rfl) (as := []) rfl rfl T (fun h1 T => ?_)
    refine mw_iload_n (dT d7_fitted 36 rfl) rfl ?_
    exact mw_iret rfl (dT d7_fitted 37 rfl) ⟨_, rfl, T⟩
  · have T := T2 z
    refine mw_iload_n (dT d7_fitted 19 rfl) rfl ?_
    refine mw_bipush (by decide) (dT d7_fitted 20 rfl) ?_
    obtain ⟨z, T1, T2⟩ := T
    refine mw_icmp_ne 61 (dT d7_fitted 21 rfl) (by decide) ⟨z, by decide⟩ (fun z => ?_) (fun z => ?_)
    · have T := T1 z
      refine mw_aload_n (dT d7_fitted 34 rfl) rfl (by decide) ?_
      refine mw_callVV mv_7_comesBack ml_X7_351 (by decide) (dT d7_fitted 35 rfl) (as := []) rfl rfl T (fun h2 T => ?_)
      refine mw_iload_n (dT d7_fitted 36 rfl) rfl ?_
      exact mw_iret rfl (dT d7_fitted 37 rfl) ⟨_, rfl, T⟩
    · have T := T2 z
      refine mw_aload_n (dT d7_fitted 22 rfl) rfl (by decide) ?_
      refine mw_callVI mv_7_unbalancedNow ml_X7_284 (by decide) (dT d7_fitted 23 rfl) (as := []) rfl rfl T (fun v1 h3 T => ?_)
      obtain ⟨z, T1, T2⟩ := T
      refine mw_if_ne 49 (dT d7_fitted 24 rfl) (by decide) z (fun z => ?_) (fun z => ?_)
      · have T := T1 z
        refine mw_aload_n (dT d7_fitted 28 rfl) rfl (by decide) ?_
        refine mw_iconst (dT d7_fitted 29 rfl) ?_
        refine mw_iconst (dT d7_fitted 30 rfl) ?_
        refine mw_callVV mv_7_rounds ml_X7_281 (by decide) (dT d7_fitted 31 rfl) (as := [mI _, mI _]) rfl rfl T (fun h4 T => ?_)
        refine mw_iinc (dT d7_fitted 32 rfl) rfl (by decide) ?_
        refine mw_goto 26 (dT d7_fitted 33 rfl) (by decide) ?_
        exact T
      · have T := T2 z
        refine mw_iload_n (dT d7_fitted 25 rfl) rfl ?_
        refine mw_istore_n (dT d7_fitted 26 rfl) (by decide) ?_
        refine mw_goto 55 (dT d7_fitted 27 rfl) (by decide) ?_
        refine mw_iinc (dT d7_fitted 32 rfl) rfl (by decide) ?_
        refine mw_goto 26 (dT d7_fitted 33 rfl) (by decide) ?_
        exact T
theorem s7_fitted {K : Int → mH → Prop} {x1 : Int} {h : mH} (T : ∀ h1 : mH, h1 = mSet h 30 0 0 0 → ((mInR x1) ∧ (x1 < 0 → (K ((-1)) h1)) ∧ (¬ x1 < 0 → ((mInR x1) ∧ (x1 ≤ 100 → (OkV M7_goesAside [mR 30 0] h1 (fun h2 => A7_fitted_26 K x1 ((-2)) 0 h2))) ∧ (¬ x1 ≤ 100 → (K ((-1)) h1)))))) : OkI M7_fitted [mR 30 0, mI x1] h K := by
  refine Ok.of rfl (n := 2) rfl ?_
  show At (mPI K) M7_fitted 0 [mR 30 0, mI x1, mU, mU] [] h
  refine mw_aload_n (dT d7_fitted 0 rfl) rfl (by decide) ?_
  refine mw_iconst (dT d7_fitted 1 rfl) ?_
  have T := T _ rfl
  refine mw_putI fp_X7_69 (dT d7_fitted 2 rfl) ?_
  refine mw_iload_n (dT d7_fitted 3 rfl) rfl ?_
  obtain ⟨z, T1, T2⟩ := T
  refine mw_if_lt 15 (dT d7_fitted 4 rfl) (by decide) z (fun z => ?_) (fun z => ?_)
  · have T := T1 z
    refine mw_iconst (dT d7_fitted 8 rfl) ?_
    exact mw_iret rfl (dT d7_fitted 9 rfl) ⟨_, rfl, T⟩
  · have T := T2 z
    refine mw_iload_n (dT d7_fitted 5 rfl) rfl ?_
    refine mw_bipush (by decide) (dT d7_fitted 6 rfl) ?_
    obtain ⟨z, T1, T2⟩ := T
    refine mw_icmp_le 17 (dT d7_fitted 7 rfl) (by decide) ⟨z, by decide⟩ (fun z => ?_) (fun z => ?_)
    · have T := T1 z
      refine mw_aload_n (dT d7_fitted 10 rfl) rfl (by decide) ?_
      refine mw_callVV mv_7_goesAside ml_X7_348 (by decide) (dT d7_fitted 11 rfl) (as := []) rfl rfl T (fun h2 T => ?_)
      refine mw_bipush (by decide) (dT d7_fitted 12 rfl) ?_
      refine mw_istore_n (dT d7_fitted 13 rfl) (by decide) ?_
      refine mw_iconst (dT d7_fitted 14 rfl) ?_
      refine mw_istore_n (dT d7_fitted 15 rfl) (by decide) ?_
      exact T
    · have T := T2 z
      refine mw_iconst (dT d7_fitted 8 rfl) ?_
      exact mw_iret rfl (dT d7_fitted 9 rfl) ⟨_, rfl, T⟩
theorem s7_unbalanced {K : Int → mH → Prop} {h : mH} (T : ∀ h1 : mH, h1 = mSet h 30 0 0 0 → (OkI M7_unbalancedNow [mR 30 0] h1 (fun v1 h2 => K v1 h2))) : OkI M7_unbalanced [mR 30 0] h K := by
  refine Ok.of rfl (n := 0) rfl ?_
  show At (mPI K) M7_unbalanced 0 [mR 30 0] [] h
  refine mw_aload_n (dT d7_unbalanced 0 rfl) rfl (by decide) ?_
  refine mw_iconst (dT d7_unbalanced 1 rfl) ?_
  have T := T _ rfl
  refine mw_putI fp_X7_69 (dT d7_unbalanced 2 rfl) ?_
  refine mw_aload_n (dT d7_unbalanced 3 rfl) rfl (by decide) ?_
  refine mw_callVI mv_7_unbalancedNow ml_X7_284 (by decide) (dT d7_unbalanced 4 rfl) (as := []) rfl rfl T (fun v1 h2 T => ?_)
  exact mw_iret rfl (dT d7_unbalanced 5 rfl) ⟨_, rfl, T⟩
theorem s7_isRounds {K : Int → mH → Prop} {x0 : Int} {h : mH} (T : (mInR x0) ∧ (x0 < 0 → (K 0 h)) ∧ (¬ x0 < 0 → ((mInR x0) ∧ (50 < x0 → (K 0 h)) ∧ (¬ 50 < x0 → (K 1 h))))) : OkI M7_isRounds [mI x0] h K := by
  refine Ok.of rfl (n := 0) rfl ?_
  show At (mPI K) M7_isRounds 0 [mI x0] [] h
  refine mw_iload_n (dT d7_isRounds 0 rfl) rfl ?_
  obtain ⟨z, T1, T2⟩ := T
  refine mw_if_lt 14 (dT d7_isRounds 1 rfl) (by decide) z (fun z => ?_) (fun z => ?_)
  · have T := T1 z
    refine mw_iconst (dT d7_isRounds 7 rfl) ?_
    exact mw_zret rfl (dT d7_isRounds 8 rfl) (Or.inl rfl) ⟨_, rfl, T⟩
  · have T := T2 z
    refine mw_iload_n (dT d7_isRounds 2 rfl) rfl ?_
    refine mw_bipush (by decide) (dT d7_isRounds 3 rfl) ?_
    obtain ⟨z, T1, T2⟩ := T
    refine mw_icmp_gt 14 (dT d7_isRounds 4 rfl) (by decide) ⟨z, by decide⟩ (fun z => ?_) (fun z => ?_)
    · have T := T1 z
      refine mw_iconst (dT d7_isRounds 7 rfl) ?_
      exact mw_zret rfl (dT d7_isRounds 8 rfl) (Or.inl rfl) ⟨_, rfl, T⟩
    · have T := T2 z
      refine mw_iconst (dT d7_isRounds 5 rfl) ?_
      refine mw_goto 15 (dT d7_isRounds 6 rfl) (by decide) ?_
      exact mw_zret rfl (dT d7_isRounds 8 rfl) (Or.inr rfl) ⟨_, rfl, T⟩
abbrev A7_withoutFactor_30 (K : Int → mH → Prop) (x1 x2 x3 : Int) (h : mH) : Prop := At (mPJ K) M7_withoutFactor 30 [mR 30 0, mI x1, mI x2, mI x3, mU] [] h
theorem s7_withoutFactor_30 {K : Int → mH → Prop} {x1 x2 x3 : Int} {h : mH} (T : (0 ≤ x1 ∧ x1 < 8) ∧ ((mInR x3 ∧ mInR (h 35 0 x1)) ∧ ((h 35 0 x1) ≤ x3 → (OkV M7_rounds [mR 30 0, mI x2, mI x1] h (fun h1 => OkJ M7_misfit [mR 30 0] h1 (fun v1 h2 => OkV M7_comesBack [mR 30 0] h2 (fun h3 => K v1 h3))))) ∧ (¬ (h 35 0 x1) ≤ x3 → ((0 ≤ ((280 + (6 * x1)) + x3) ∧ ((280 + (6 * x1)) + x3) < 314) ∧ (∀ h4 : mH, h4 = mSet h 41 0 ((280 + (6 * x1)) + x3) 10000 → (A7_withoutFactor_30 K x1 x2 (x3 + 1) h4)))))) : A7_withoutFactor_30 K x1 x2 x3 h := by
  refine mw_iload_n (dT d7_withoutFactor 16 rfl) rfl ?_
  refine mw_aload_n (dT d7_withoutFactor 17 rfl) rfl (by decide) ?_
  refine mw_getR fl_X7_23 (dT d7_withoutFactor 18 rfl) ?_
  refine mw_iload_n (dT d7_withoutFactor 19 rfl) rfl ?_
  obtain ⟨z, T⟩ := T
  refine mw_iaload ro_35 (dT d7_withoutFactor 20 rfl) z ?_
  obtain ⟨z, T1, T2⟩ := T
  refine mw_icmp_ge 64 (dT d7_withoutFactor 21 rfl) (by decide) z (fun z => ?_) (fun z => ?_)
  · have T := T1 z
    refine mw_aload_n (dT d7_withoutFactor 35 rfl) rfl (by decide) ?_
    refine mw_iload_n (dT d7_withoutFactor 36 rfl) rfl ?_
    refine mw_iload_n (dT d7_withoutFactor 37 rfl) rfl ?_
    refine mw_callVV mv_7_rounds ml_X7_281 (by decide) (dT d7_withoutFactor 38 rfl) (as := [mI _, mI _]) rfl rfl T (fun h1 T => ?_)
    refine mw_aload_n (dT d7_withoutFactor 39 rfl) rfl (by decide) ?_
    refine mw_callVJ mv_7_misfit ml_X7_345 (by decide) (dT d7_withoutFactor 40 rfl) (as := []) rfl rfl T (fun v1 h2 T => ?_)
    refine mw_lstore_n (dT d7_withoutFactor 41 rfl) (by decide) ?_
    refine mw_aload_n (dT d7_withoutFactor 42 rfl) rfl (by decide) ?_
    refine mw_callVV mv_7_comesBack ml_X7_351 (by decide) (dT d7_withoutFactor 43 rfl) (as := []) rfl rfl T (fun h3 T => ?_)
    refine mw_lload_n (dT d7_withoutFactor 44 rfl) rfl ?_
    exact mw_lret rfl (dT d7_withoutFactor 45 rfl) ⟨_, rfl, T⟩
  · have T := T2 z
    refine mw_aload_n (dT d7_withoutFactor 22 rfl) rfl (by decide) ?_
    refine mw_getR fl_X7_45 (dT d7_withoutFactor 23 rfl) ?_
    refine mw_sipush (by decide) (dT d7_withoutFactor 24 rfl) ?_
    refine mw_bipush (by decide) (dT d7_withoutFactor 25 rfl) ?_
    refine mw_iload_n (dT d7_withoutFactor 26 rfl) rfl ?_
    refine mw_imul (dT d7_withoutFactor 27 rfl) ?_
    refine mw_iadd (dT d7_withoutFactor 28 rfl) ?_
    refine mw_iload_n (dT d7_withoutFactor 29 rfl) rfl ?_
    refine mw_iadd (dT d7_withoutFactor 30 rfl) ?_
    refine mw_sipush (by decide) (dT d7_withoutFactor 31 rfl) ?_
    obtain ⟨z, T⟩ := T
    have T := T _ rfl
    refine mw_iastore ro_41 (dT d7_withoutFactor 32 rfl) z ?_
    refine mw_iinc (dT d7_withoutFactor 33 rfl) rfl (by decide) ?_
    refine mw_goto 30 (dT d7_withoutFactor 34 rfl) (by decide) ?_
    exact T
theorem s7_withoutFactor {K : Int → mH → Prop} {x1 : Int} {x2 : Int} {h : mH} (T : ∀ h1 : mH, h1 = mSet h 30 0 0 0 → (OkI M7_isFactor [mR 30 0, mI x1] h1 (fun v1 h2 => (mInR v1) ∧ (v1 = 0 → (K ((-1)) h2)) ∧ (¬ v1 = 0 → (OkI M7_isRounds [mI x2] h2 (fun v2 h3 => (mInR v2) ∧ (¬ v2 = 0 → (OkV M7_goesAside [mR 30 0] h3 (fun h4 => A7_withoutFactor_30 K x1 x2 0 h4))) ∧ (v2 = 0 → (K ((-1)) h3)))))))) : OkJ M7_withoutFactor [mR 30 0, mI x1, mI x2] h K := by
  refine Ok.of rfl (n := 2) rfl ?_
  show At (mPJ K) M7_withoutFactor 0 [mR 30 0, mI x1, mI x2, mU, mU] [] h
  refine mw_aload_n (dT d7_withoutFactor 0 rfl) rfl (by decide) ?_
  refine mw_iconst (dT d7_withoutFactor 1 rfl) ?_
  have T := T _ rfl
  refine mw_putI fp_X7_69 (dT d7_withoutFactor 2 rfl) ?_
  refine mw_aload_n (dT d7_withoutFactor 3 rfl) rfl (by decide) ?_
  refine mw_iload_n (dT d7_withoutFactor 4 rfl) rfl ?_
  refine mw_callVI mv_7_isFactor ml_X7_203 (by decide) (dT d7_withoutFactor 5 rfl) (as := [mI _]) rfl rfl T (fun v1 h2 T => ?_)
  obtain ⟨z, T1, T2⟩ := T
  refine mw_if_eq 20 (dT d7_withoutFactor 6 rfl) (by decide) z (fun z => ?_) (fun z => ?_)
  · have T := T1 z
    refine mw_ldc2 kl_X7_307 (dT d7_withoutFactor 10 rfl) ?_
    exact mw_lret rfl (dT d7_withoutFactor 11 rfl) ⟨_, rfl, T⟩
  · have T := T2 z
    refine mw_iload_n (dT d7_withoutFactor 7 rfl) rfl ?_
    refine mw_callSI mt_7_isRounds ml_X7_354 (by decide) (dT d7_withoutFactor 8 rfl) (as := [mI _]) rfl rfl T (fun v2 h3 T => ?_)
    obtain ⟨z, T1, T2⟩ := T
    refine mw_if_ne 24 (dT d7_withoutFactor 9 rfl) (by decide) z (fun z => ?_) (fun z => ?_)
    · have T := T1 z
      refine mw_aload_n (dT d7_withoutFactor 12 rfl) rfl (by decide) ?_
      refine mw_callVV mv_7_goesAside ml_X7_348 (by decide) (dT d7_withoutFactor 13 rfl) (as := []) rfl rfl T (fun h4 T => ?_)
      refine mw_iconst (dT d7_withoutFactor 14 rfl) ?_
      refine mw_istore_n (dT d7_withoutFactor 15 rfl) (by decide) ?_
      exact T
    · have T := T2 z
      refine mw_ldc2 kl_X7_307 (dT d7_withoutFactor 10 rfl) ?_
      exact mw_lret rfl (dT d7_withoutFactor 11 rfl) ⟨_, rfl, T⟩
abbrev A7_bestJoin_35 (K : Int → mH → Prop) (x1 x2 x3 x4 x6 : Int) (h : mH) : Prop := At (mPI K) M7_bestJoin 35 [mR 30 0, mI x1, mI x2, mI x3, mJ x4, mU, mI x6, mU, mU] [] h
theorem s7_bestJoin_35 {K : Int → mH → Prop} {x1 x2 x3 x4 x6 : Int} {h : mH} (T : (0 ≤ x1 ∧ x1 < 8) ∧ ((mInR x6 ∧ mInR ((h 35 0 x1) - 1)) ∧ (((h 35 0 x1) - 1) ≤ x6 → (K x3 h)) ∧ (¬ ((h 35 0 x1) - 1) ≤ x6 → (OkI M7_isJoined [mR 30 0, mI x1, mI x6] h (fun v1 h1 => (mInR v1) ∧ (v1 = 0 → (OkV M7_joins [mR 30 0, mI x1, mI x6] h1 (fun h2 => OkV M7_rounds [mR 30 0, mI x2, mI ((-1))] h2 (fun h3 => OkJ M7_misfit [mR 30 0] h3 (fun v2 h4 => OkV M7_comesBack [mR 30 0] h4 (fun h5 => (mInR x3) ∧ (x3 = ((-2)) → (A7_bestJoin_35 K x1 x2 x6 v2 (x6 + 1) h5)) ∧ (¬ x3 = ((-2)) → ((mInL v2 ∧ mInL x4) ∧ (v2 < x4 → (A7_bestJoin_35 K x1 x2 x6 v2 (x6 + 1) h5)) ∧ (¬ v2 < x4 → (A7_bestJoin_35 K x1 x2 x3 x4 (x6 + 1) h5)))))))))) ∧ (¬ v1 = 0 → (A7_bestJoin_35 K x1 x2 x3 x4 (x6 + 1) h1))))))) : A7_bestJoin_35 K x1 x2 x3 x4 x6 h := by
  refine mw_iload (dT d7_bestJoin 20 rfl) rfl ?_
  refine mw_aload_n (dT d7_bestJoin 21 rfl) rfl (by decide) ?_
  refine mw_getR fl_X7_23 (dT d7_bestJoin 22 rfl) ?_
  refine mw_iload_n (dT d7_bestJoin 23 rfl) rfl ?_
  obtain ⟨z, T⟩ := T
  refine mw_iaload ro_35 (dT d7_bestJoin 24 rfl) z ?_
  refine mw_iconst (dT d7_bestJoin 25 rfl) ?_
  refine mw_isub (dT d7_bestJoin 26 rfl) ?_
  obtain ⟨z, T1, T2⟩ := T
  refine mw_icmp_ge 114 (dT d7_bestJoin 27 rfl) (by decide) z (fun z => ?_) (fun z => ?_)
  · have T := T1 z
    refine mw_iload_n (dT d7_bestJoin 61 rfl) rfl ?_
    exact mw_iret rfl (dT d7_bestJoin 62 rfl) ⟨_, rfl, T⟩
  · have T := T2 z
    refine mw_aload_n (dT d7_bestJoin 28 rfl) rfl (by decide) ?_
    refine mw_iload_n (dT d7_bestJoin 29 rfl) rfl ?_
    refine mw_iload (dT d7_bestJoin 30 rfl) rfl ?_
    refine mw_callVI mv_7_isJoined ml_X7_206 (by decide) (dT d7_bestJoin 31 rfl) (as := [mI _, mI _]) rfl rfl T (fun v1 h1 T => ?_)
    obtain ⟨z, T1, T2⟩ := T
    refine mw_if_eq 61 (dT d7_bestJoin 32 rfl) (by decide) z (fun z => ?_) (fun z => ?_)
    · have T := T1 z
      refine mw_aload_n (dT d7_bestJoin 34 rfl) rfl (by decide) ?_
      refine mw_iload_n (dT d7_bestJoin 35 rfl) rfl ?_
      refine mw_iload (dT d7_bestJoin 36 rfl) rfl ?_
      refine mw_callVV mv_7_joins ml_X7_304 (by decide) (dT d7_bestJoin 37 rfl) (as := [mI _, mI _]) rfl rfl T (fun h2 T => ?_)
      refine mw_aload_n (dT d7_bestJoin 38 rfl) rfl (by decide) ?_
      refine mw_iload_n (dT d7_bestJoin 39 rfl) rfl ?_
      refine mw_iconst (dT d7_bestJoin 40 rfl) ?_
      refine mw_callVV mv_7_rounds ml_X7_281 (by decide) (dT d7_bestJoin 41 rfl) (as := [mI _, mI _]) rfl rfl T (fun h3 T => ?_)
      refine mw_aload_n (dT d7_bestJoin 42 rfl) rfl (by decide) ?_
      refine mw_callVJ mv_7_misfit ml_X7_345 (by decide) (dT d7_bestJoin 43 rfl) (as := []) rfl rfl T (fun v2 h4 T => ?_)
      refine mw_lstore (dT d7_bestJoin 44 rfl) (by decide) ?_
      refine mw_aload_n (dT d7_bestJoin 45 rfl) rfl (by decide) ?_
      refine mw_callVV mv_7_comesBack ml_X7_351 (by decide) (dT d7_bestJoin 46 rfl) (as := []) rfl rfl T (fun h5 T => ?_)
      refine mw_iload_n (dT d7_bestJoin 47 rfl) rfl ?_
      refine mw_bipush (by decide) (dT d7_bestJoin 48 rfl) ?_
      obtain ⟨z, T1, T2⟩ := T
      refine mw_icmp_eq 101 (dT d7_bestJoin 49 rfl) (by decide) ⟨z, by decide⟩ (fun z => ?_) (fun z => ?_)
      · have T := T1 z
        refine mw_iload (dT d7_bestJoin 55 rfl) rfl ?_
        refine mw_istore_n (dT d7_bestJoin 56 rfl) (by decide) ?_
        refine mw_lload (dT d7_bestJoin 57 rfl) rfl ?_
        refine mw_lstore (dT d7_bestJoin 58 rfl) (by decide) ?_
        refine mw_iinc (dT d7_bestJoin 59 rfl) rfl (by decide) ?_
        refine mw_goto 35 (dT d7_bestJoin 60 rfl) (by decide) ?_
        exact At.forget [7] T
      · have T := T2 z
        refine mw_lload (dT d7_bestJoin 50 rfl) rfl ?_
        refine mw_lload (dT d7_bestJoin 51 rfl) rfl ?_
        obtain ⟨z, T1, T2⟩ := T
        refine mw_lif_lt 101 (dT d7_bestJoin 52 rfl) (dT d7_bestJoin 53 rfl) (by decide) z (fun z => ?_) (fun z => ?_)
        · have T := T1 z
          refine mw_iload (dT d7_bestJoin 55 rfl) rfl ?_
          refine mw_istore_n (dT d7_bestJoin 56 rfl) (by decide) ?_
          refine mw_lload (dT d7_bestJoin 57 rfl) rfl ?_
          refine mw_lstore (dT d7_bestJoin 58 rfl) (by decide) ?_
          refine mw_iinc (dT d7_bestJoin 59 rfl) rfl (by decide) ?_
          refine mw_goto 35 (dT d7_bestJoin 60 rfl) (by decide) ?_
          exact At.forget [7] T
        · have T := T2 z
          refine mw_goto 108 (dT d7_bestJoin 54 rfl) (by decide) ?_
          refine mw_iinc (dT d7_bestJoin 59 rfl) rfl (by decide) ?_
          refine mw_goto 35 (dT d7_bestJoin 60 rfl) (by decide) ?_
          exact At.forget [7] T
    · have T := T2 z
      refine mw_goto 108 (dT d7_bestJoin 33 rfl) (by decide) ?_
      refine mw_iinc (dT d7_bestJoin 59 rfl) rfl (by decide) ?_
      refine mw_goto 35 (dT d7_bestJoin 60 rfl) (by decide) ?_
      exact T
theorem s7_bestJoin {K : Int → mH → Prop} {x1 : Int} {x2 : Int} {h : mH} (T : ∀ h1 : mH, h1 = mSet h 30 0 0 0 → (OkI M7_isFactor [mR 30 0, mI x1] h1 (fun v1 h2 => (mInR v1) ∧ (v1 = 0 → (K ((-1)) h2)) ∧ (¬ v1 = 0 → (OkI M7_isRounds [mI x2] h2 (fun v2 h3 => (mInR v2) ∧ (¬ v2 = 0 → (OkV M7_goesAside [mR 30 0] h3 (fun h4 => A7_bestJoin_35 K x1 x2 ((-2)) 0 0 h4))) ∧ (v2 = 0 → (K ((-1)) h3)))))))) : OkI M7_bestJoin [mR 30 0, mI x1, mI x2] h K := by
  refine Ok.of rfl (n := 6) rfl ?_
  show At (mPI K) M7_bestJoin 0 [mR 30 0, mI x1, mI x2, mU, mU, mU, mU, mU, mU] [] h
  refine mw_aload_n (dT d7_bestJoin 0 rfl) rfl (by decide) ?_
  refine mw_iconst (dT d7_bestJoin 1 rfl) ?_
  have T := T _ rfl
  refine mw_putI fp_X7_69 (dT d7_bestJoin 2 rfl) ?_
  refine mw_aload_n (dT d7_bestJoin 3 rfl) rfl (by decide) ?_
  refine mw_iload_n (dT d7_bestJoin 4 rfl) rfl ?_
  refine mw_callVI mv_7_isFactor ml_X7_203 (by decide) (dT d7_bestJoin 5 rfl) (as := [mI _]) rfl rfl T (fun v1 h2 T => ?_)
  obtain ⟨z, T1, T2⟩ := T
  refine mw_if_eq 20 (dT d7_bestJoin 6 rfl) (by decide) z (fun z => ?_) (fun z => ?_)
  · have T := T1 z
    refine mw_iconst (dT d7_bestJoin 10 rfl) ?_
    exact mw_iret rfl (dT d7_bestJoin 11 rfl) ⟨_, rfl, T⟩
  · have T := T2 z
    refine mw_iload_n (dT d7_bestJoin 7 rfl) rfl ?_
    refine mw_callSI mt_7_isRounds ml_X7_354 (by decide) (dT d7_bestJoin 8 rfl) (as := [mI _]) rfl rfl T (fun v2 h3 T => ?_)
    obtain ⟨z, T1, T2⟩ := T
    refine mw_if_ne 22 (dT d7_bestJoin 9 rfl) (by decide) z (fun z => ?_) (fun z => ?_)
    · have T := T1 z
      refine mw_bipush (by decide) (dT d7_bestJoin 12 rfl) ?_
      refine mw_istore_n (dT d7_bestJoin 13 rfl) (by decide) ?_
      refine mw_lconst (dT d7_bestJoin 14 rfl) ?_
      refine mw_lstore (dT d7_bestJoin 15 rfl) (by decide) ?_
      refine mw_aload_n (dT d7_bestJoin 16 rfl) rfl (by decide) ?_
      refine mw_callVV mv_7_goesAside ml_X7_348 (by decide) (dT d7_bestJoin 17 rfl) (as := []) rfl rfl T (fun h4 T => ?_)
      refine mw_iconst (dT d7_bestJoin 18 rfl) ?_
      refine mw_istore (dT d7_bestJoin 19 rfl) (by decide) ?_
      exact T
    · have T := T2 z
      refine mw_iconst (dT d7_bestJoin 10 rfl) ?_
      exact mw_iret rfl (dT d7_bestJoin 11 rfl) ⟨_, rfl, T⟩
theorem s7_withoutRisk {K : Int → mH → Prop} {x1 : Int} {x2 : Int} {h : mH} (T : ∀ h1 : mH, h1 = mSet h 30 0 0 0 → (OkI M7_isRisk [mR 30 0, mI x1] h1 (fun v1 h2 => (mInR v1) ∧ (v1 = 0 → (K ((-1)) h2)) ∧ (¬ v1 = 0 → (OkI M7_isRounds [mI x2] h2 (fun v2 h3 => (mInR v2) ∧ (¬ v2 = 0 → (OkV M7_goesAside [mR 30 0] h3 (fun h4 => OkV M7_goes [mR 30 0, mI x1] h4 (fun h5 => OkV M7_rounds [mR 30 0, mI x2, mI ((-1))] h5 (fun h6 => OkV M7_rebases [mR 30 0] h6 (fun h7 => OkV M7_comesBack [mR 30 0] h7 (fun h8 => K (h7 41 0 308) h8))))))) ∧ (v2 = 0 → (K ((-1)) h3)))))))) : OkI M7_withoutRisk [mR 30 0, mI x1, mI x2] h K := by
  refine Ok.of rfl (n := 1) rfl ?_
  show At (mPI K) M7_withoutRisk 0 [mR 30 0, mI x1, mI x2, mU] [] h
  refine mw_aload_n (dT d7_withoutRisk 0 rfl) rfl (by decide) ?_
  refine mw_iconst (dT d7_withoutRisk 1 rfl) ?_
  have T := T _ rfl
  refine mw_putI fp_X7_69 (dT d7_withoutRisk 2 rfl) ?_
  refine mw_aload_n (dT d7_withoutRisk 3 rfl) rfl (by decide) ?_
  refine mw_iload_n (dT d7_withoutRisk 4 rfl) rfl ?_
  refine mw_callVI mv_7_isRisk ml_X7_295 (by decide) (dT d7_withoutRisk 5 rfl) (as := [mI _]) rfl rfl T (fun v1 h2 T => ?_)
  obtain ⟨z, T1, T2⟩ := T
  refine mw_if_eq 20 (dT d7_withoutRisk 6 rfl) (by decide) z (fun z => ?_) (fun z => ?_)
  · have T := T1 z
    refine mw_iconst (dT d7_withoutRisk 10 rfl) ?_
    exact mw_iret rfl (dT d7_withoutRisk 11 rfl) ⟨_, rfl, T⟩
  · have T := T2 z
    refine mw_iload_n (dT d7_withoutRisk 7 rfl) rfl ?_
    refine mw_callSI mt_7_isRounds ml_X7_354 (by decide) (dT d7_withoutRisk 8 rfl) (as := [mI _]) rfl rfl T (fun v2 h3 T => ?_)
    obtain ⟨z, T1, T2⟩ := T
    refine mw_if_ne 22 (dT d7_withoutRisk 9 rfl) (by decide) z (fun z => ?_) (fun z => ?_)
    · have T := T1 z
      refine mw_aload_n (dT d7_withoutRisk 12 rfl) rfl (by decide) ?_
      refine mw_callVV mv_7_goesAside ml_X7_348 (by decide) (dT d7_withoutRisk 13 rfl) (as := []) rfl rfl T (fun h4 T => ?_)
      refine mw_aload_n (dT d7_withoutRisk 14 rfl) rfl (by decide) ?_
      refine mw_iload_n (dT d7_withoutRisk 15 rfl) rfl ?_
      refine mw_callVV mv_7_goes ml_X7_301 (by decide) (dT d7_withoutRisk 16 rfl) (as := [mI _]) rfl rfl T (fun h5 T => ?_)
      refine mw_aload_n (dT d7_withoutRisk 17 rfl) rfl (by decide) ?_
      refine mw_iload_n (dT d7_withoutRisk 18 rfl) rfl ?_
      refine mw_iconst (dT d7_withoutRisk 19 rfl) ?_
      refine mw_callVV mv_7_rounds ml_X7_281 (by decide) (dT d7_withoutRisk 20 rfl) (as := [mI _, mI _]) rfl rfl T (fun h6 T => ?_)
      refine mw_aload_n (dT d7_withoutRisk 21 rfl) rfl (by decide) ?_
      refine mw_callVV mv_7_rebases ml_X7_287 (by decide) (dT d7_withoutRisk 22 rfl) (as := []) rfl rfl T (fun h7 T => ?_)
      refine mw_aload_n (dT d7_withoutRisk 23 rfl) rfl (by decide) ?_
      refine mw_getR fl_X7_45 (dT d7_withoutRisk 24 rfl) ?_
      refine mw_sipush (by decide) (dT d7_withoutRisk 25 rfl) ?_
      refine mw_iaload ro_41 (dT d7_withoutRisk 26 rfl) (by decide) ?_
      refine mw_istore_n (dT d7_withoutRisk 27 rfl) (by decide) ?_
      refine mw_aload_n (dT d7_withoutRisk 28 rfl) rfl (by decide) ?_
      refine mw_callVV mv_7_comesBack ml_X7_351 (by decide) (dT d7_withoutRisk 29 rfl) (as := []) rfl rfl T (fun h8 T => ?_)
      refine mw_iload_n (dT d7_withoutRisk 30 rfl) rfl ?_
      exact mw_iret rfl (dT d7_withoutRisk 31 rfl) ⟨_, rfl, T⟩
    · have T := T2 z
      refine mw_iconst (dT d7_withoutRisk 10 rfl) ?_
      exact mw_iret rfl (dT d7_withoutRisk 11 rfl) ⟨_, rfl, T⟩
theorem s7_quote {K : Int → mH → Prop} {x1 : Int} {x2 : Int} {h : mH} (T : ∀ h1 : mH, h1 = mSet h 30 0 0 0 → ((mInR x1) ∧ (x1 < 1 → (K ((-1)) h1)) ∧ (¬ x1 < 1 → ((mInR x1) ∧ (99 < x1 → (K ((-1)) h1)) ∧ (¬ 99 < x1 → (OkI M7_laysLevels [mR 30 0, mI x2] h1 (fun v1 h2 => (mInR v1) ∧ (v1 = 0 → (K ((-1)) h2)) ∧ (¬ v1 = 0 → (OkJ M7_premiumBy [mR 30 0, mI x1, mI ((-1))] h2 (fun v2 h3 => K v2 h3)))))))))) : OkJ M7_quote [mR 30 0, mI x1, mI x2] h K := by
  refine Ok.of rfl (n := 0) rfl ?_
  show At (mPJ K) M7_quote 0 [mR 30 0, mI x1, mI x2] [] h
  refine mw_aload_n (dT d7_quote 0 rfl) rfl (by decide) ?_
  refine mw_iconst (dT d7_quote 1 rfl) ?_
  have T := T _ rfl
  refine mw_putI fp_X7_69 (dT d7_quote 2 rfl) ?_
  refine mw_iload_n (dT d7_quote 3 rfl) rfl ?_
  refine mw_iconst (dT d7_quote 4 rfl) ?_
  obtain ⟨z, T1, T2⟩ := T
  refine mw_icmp_lt 33 (dT d7_quote 5 rfl) (by decide) ⟨z, by decide⟩ (fun z => ?_) (fun z => ?_)
  · have T := T1 z
    refine mw_ldc2 kl_X7_307 (dT d7_quote 18 rfl) ?_
    exact mw_lret rfl (dT d7_quote 19 rfl) ⟨_, rfl, T⟩
  · have T := T2 z
    refine mw_iload_n (dT d7_quote 6 rfl) rfl ?_
    refine mw_bipush (by decide) (dT d7_quote 7 rfl) ?_
    obtain ⟨z, T1, T2⟩ := T
    refine mw_icmp_gt 33 (dT d7_quote 8 rfl) (by decide) ⟨z, by decide⟩ (fun z => ?_) (fun z => ?_)
    · have T := T1 z
      refine mw_ldc2 kl_X7_307 (dT d7_quote 18 rfl) ?_
      exact mw_lret rfl (dT d7_quote 19 rfl) ⟨_, rfl, T⟩
    · have T := T2 z
      refine mw_aload_n (dT d7_quote 9 rfl) rfl (by decide) ?_
      refine mw_iload_n (dT d7_quote 10 rfl) rfl ?_
      refine mw_callVI mv_7_laysLevels ml_X7_298 (by decide) (dT d7_quote 11 rfl) (as := [mI _]) rfl rfl T (fun v1 h2 T => ?_)
      obtain ⟨z, T1, T2⟩ := T
      refine mw_if_eq 33 (dT d7_quote 12 rfl) (by decide) z (fun z => ?_) (fun z => ?_)
      · have T := T1 z
        refine mw_ldc2 kl_X7_307 (dT d7_quote 18 rfl) ?_
        exact mw_lret rfl (dT d7_quote 19 rfl) ⟨_, rfl, T⟩
      · have T := T2 z
        refine mw_aload_n (dT d7_quote 13 rfl) rfl (by decide) ?_
        refine mw_iload_n (dT d7_quote 14 rfl) rfl ?_
        refine mw_iconst (dT d7_quote 15 rfl) ?_
        refine mw_callVJ mv_7_premiumBy ml_X7_227 (by decide) (dT d7_quote 16 rfl) (as := [mI _, mI _]) rfl rfl T (fun v2 h3 T => ?_)
        refine mw_goto 36 (dT d7_quote 17 rfl) (by decide) ?_
        exact mw_lret rfl (dT d7_quote 19 rfl) ⟨_, rfl, T⟩
abbrev A7_isMet_2 (K : Int → mH → Prop) (x1 x2 : Int) (h : mH) : Prop := At (mPI K) M7_isMet 2 [mR 30 0, mI x1, mI x2, mU, mU, mU] [] h
abbrev A7_isMet_18 (K : Int → mH → Prop) (x1 x2 x3 x4 x5 : Int) (h : mH) : Prop := At (mPI K) M7_isMet 18 [mR 30 0, mI x1, mI x2, mI x3, mI x4, mI x5] [] h
theorem s7_isMet_2 {K : Int → mH → Prop} {x1 x2 : Int} {h : mH} (T : OkI M7_many [mR 30 0] h (fun v1 h1 => (mInR x2 ∧ mInR v1) ∧ (v1 ≤ x2 → (K 0 h1)) ∧ (¬ v1 ≤ x2 → (A7_isMet_18 K x1 x2 x1 1 0 h1)))) : A7_isMet_2 K x1 x2 h := by
  refine mw_iload_n (dT d7_isMet 2 rfl) rfl ?_
  refine mw_aload_n (dT d7_isMet 3 rfl) rfl (by decide) ?_
  refine mw_callVI mv_7_many ml_X7_200 (by decide) (dT d7_isMet 4 rfl) (as := []) rfl rfl T (fun v1 h1 T => ?_)
  obtain ⟨z, T1, T2⟩ := T
  refine mw_icmp_ge 94 (dT d7_isMet 5 rfl) (by decide) z (fun z => ?_) (fun z => ?_)
  · have T := T1 z
    refine mw_iconst (dT d7_isMet 54 rfl) ?_
    exact mw_zret rfl (dT d7_isMet 55 rfl) (Or.inl rfl) ⟨_, rfl, T⟩
  · have T := T2 z
    refine mw_iload_n (dT d7_isMet 6 rfl) rfl ?_
    refine mw_istore_n (dT d7_isMet 7 rfl) (by decide) ?_
    refine mw_iconst (dT d7_isMet 8 rfl) ?_
    refine mw_istore (dT d7_isMet 9 rfl) (by decide) ?_
    refine mw_iconst (dT d7_isMet 10 rfl) ?_
    refine mw_istore (dT d7_isMet 11 rfl) (by decide) ?_
    exact T
theorem s7_isMet_18 {K : Int → mH → Prop} {x1 x2 x3 x4 x5 : Int} {h : mH} (T : OkI M7_factors [mR 30 0] h (fun v1 h1 => (mInR x5 ∧ mInR v1) ∧ (v1 ≤ x5 → ((mInR x4) ∧ (x4 = 0 → (A7_isMet_2 K x1 (x2 + 1) h1)) ∧ (¬ x4 = 0 → (K 1 h1)))) ∧ (¬ v1 ≤ x5 → ((mInR x4) ∧ (x4 = 0 → ((0 ≤ x5 ∧ x5 < 8) ∧ ((mInR x3 ∧ mInR (h1 35 0 x5) ∧ (h1 35 0 x5) ≠ 0) ∧ (A7_isMet_18 K x1 x2 (Int.tdiv x3 (h1 35 0 x5)) 0 (x5 + 1) h1)))) ∧ (¬ x4 = 0 → ((0 ≤ x5 ∧ x5 < 8) ∧ ((mInR x3 ∧ mInR (h1 35 0 x5) ∧ (h1 35 0 x5) ≠ 0) ∧ ((0 ≤ (((7 * x2) + 3) + x5) ∧ (((7 * x2) + 3) + x5) < 314) ∧ ((mInR (Int.tmod x3 (h1 35 0 x5)) ∧ mInR (h1 41 0 (((7 * x2) + 3) + x5))) ∧ (¬ (Int.tmod x3 (h1 35 0 x5)) = (h1 41 0 (((7 * x2) + 3) + x5)) → ((0 ≤ x5 ∧ x5 < 8) ∧ ((mInR x3 ∧ mInR (h1 35 0 x5) ∧ (h1 35 0 x5) ≠ 0) ∧ (A7_isMet_18 K x1 x2 (Int.tdiv x3 (h1 35 0 x5)) 0 (x5 + 1) h1)))) ∧ ((Int.tmod x3 (h1 35 0 x5)) = (h1 41 0 (((7 * x2) + 3) + x5)) → ((0 ≤ x5 ∧ x5 < 8) ∧ ((mInR x3 ∧ mInR (h1 35 0 x5) ∧ (h1 35 0 x5) ≠ 0) ∧ (A7_isMet_18 K x1 x2 (Int.tdiv x3 (h1 35 0 x5)) 1 (x5 + 1) h1))))))))))))) : A7_isMet_18 K x1 x2 x3 x4 x5 h := by
  refine mw_iload (dT d7_isMet 12 rfl) rfl ?_
  refine mw_aload_n (dT d7_isMet 13 rfl) rfl (by decide) ?_
  refine mw_callVI mv_7_factors ml_X7_193 (by decide) (dT d7_isMet 14 rfl) (as := []) rfl rfl T (fun v1 h1 T => ?_)
  obtain ⟨z, T1, T2⟩ := T
  refine mw_icmp_ge 81 (dT d7_isMet 15 rfl) (by decide) z (fun z => ?_) (fun z => ?_)
  · have T := T1 z
    refine mw_iload (dT d7_isMet 48 rfl) rfl ?_
    obtain ⟨z, T1, T2⟩ := T
    refine mw_if_eq 88 (dT d7_isMet 49 rfl) (by decide) z (fun z => ?_) (fun z => ?_)
    · have T := T1 z
      refine mw_iinc (dT d7_isMet 52 rfl) rfl (by decide) ?_
      refine mw_goto 2 (dT d7_isMet 53 rfl) (by decide) ?_
      exact At.forget [3, 4, 5] T
    · have T := T2 z
      refine mw_iconst (dT d7_isMet 50 rfl) ?_
      exact mw_zret rfl (dT d7_isMet 51 rfl) (Or.inr rfl) ⟨_, rfl, T⟩
  · have T := T2 z
    refine mw_iload (dT d7_isMet 16 rfl) rfl ?_
    obtain ⟨z, T1, T2⟩ := T
    refine mw_if_eq 62 (dT d7_isMet 17 rfl) (by decide) z (fun z => ?_) (fun z => ?_)
    · have T := T1 z
      refine mw_iconst (dT d7_isMet 37 rfl) ?_
      refine mw_istore (dT d7_isMet 38 rfl) (by decide) ?_
      refine mw_iload_n (dT d7_isMet 39 rfl) rfl ?_
      refine mw_aload_n (dT d7_isMet 40 rfl) rfl (by decide) ?_
      refine mw_getR fl_X7_23 (dT d7_isMet 41 rfl) ?_
      refine mw_iload (dT d7_isMet 42 rfl) rfl ?_
      obtain ⟨z, T⟩ := T
      refine mw_iaload ro_35 (dT d7_isMet 43 rfl) z ?_
      obtain ⟨z, T⟩ := T
      refine mw_idiv (dT d7_isMet 44 rfl) z ?_
      refine mw_istore_n (dT d7_isMet 45 rfl) (by decide) ?_
      refine mw_iinc (dT d7_isMet 46 rfl) rfl (by decide) ?_
      refine mw_goto 18 (dT d7_isMet 47 rfl) (by decide) ?_
      exact T
    · have T := T2 z
      refine mw_iload_n (dT d7_isMet 18 rfl) rfl ?_
      refine mw_aload_n (dT d7_isMet 19 rfl) rfl (by decide) ?_
      refine mw_getR fl_X7_23 (dT d7_isMet 20 rfl) ?_
      refine mw_iload (dT d7_isMet 21 rfl) rfl ?_
      obtain ⟨z, T⟩ := T
      refine mw_iaload ro_35 (dT d7_isMet 22 rfl) z ?_
      obtain ⟨z, T⟩ := T
      refine mw_irem (dT d7_isMet 23 rfl) z ?_
      refine mw_aload_n (dT d7_isMet 24 rfl) rfl (by decide) ?_
      refine mw_getR fl_X7_45 (dT d7_isMet 25 rfl) ?_
      refine mw_bipush (by decide) (dT d7_isMet 26 rfl) ?_
      refine mw_iload_n (dT d7_isMet 27 rfl) rfl ?_
      refine mw_imul (dT d7_isMet 28 rfl) ?_
      refine mw_iconst (dT d7_isMet 29 rfl) ?_
      refine mw_iadd (dT d7_isMet 30 rfl) ?_
      refine mw_iload (dT d7_isMet 31 rfl) rfl ?_
      refine mw_iadd (dT d7_isMet 32 rfl) ?_
      obtain ⟨z, T⟩ := T
      refine mw_iaload ro_41 (dT d7_isMet 33 rfl) z ?_
      obtain ⟨z, T1, T2⟩ := T
      refine mw_icmp_ne 62 (dT d7_isMet 34 rfl) (by decide) z (fun z => ?_) (fun z => ?_)
      · have T := T1 z
        refine mw_iconst (dT d7_isMet 37 rfl) ?_
        refine mw_istore (dT d7_isMet 38 rfl) (by decide) ?_
        refine mw_iload_n (dT d7_isMet 39 rfl) rfl ?_
        refine mw_aload_n (dT d7_isMet 40 rfl) rfl (by decide) ?_
        refine mw_getR fl_X7_23 (dT d7_isMet 41 rfl) ?_
        refine mw_iload (dT d7_isMet 42 rfl) rfl ?_
        obtain ⟨z, T⟩ := T
        refine mw_iaload ro_35 (dT d7_isMet 43 rfl) z ?_
        obtain ⟨z, T⟩ := T
        refine mw_idiv (dT d7_isMet 44 rfl) z ?_
        refine mw_istore_n (dT d7_isMet 45 rfl) (by decide) ?_
        refine mw_iinc (dT d7_isMet 46 rfl) rfl (by decide) ?_
        refine mw_goto 18 (dT d7_isMet 47 rfl) (by decide) ?_
        exact T
      · have T := T2 z
        refine mw_iconst (dT d7_isMet 35 rfl) ?_
        refine mw_goto 63 (dT d7_isMet 36 rfl) (by decide) ?_
        refine mw_istore (dT d7_isMet 38 rfl) (by decide) ?_
        refine mw_iload_n (dT d7_isMet 39 rfl) rfl ?_
        refine mw_aload_n (dT d7_isMet 40 rfl) rfl (by decide) ?_
        refine mw_getR fl_X7_23 (dT d7_isMet 41 rfl) ?_
        refine mw_iload (dT d7_isMet 42 rfl) rfl ?_
        obtain ⟨z, T⟩ := T
        refine mw_iaload ro_35 (dT d7_isMet 43 rfl) z ?_
        obtain ⟨z, T⟩ := T
        refine mw_idiv (dT d7_isMet 44 rfl) z ?_
        refine mw_istore_n (dT d7_isMet 45 rfl) (by decide) ?_
        refine mw_iinc (dT d7_isMet 46 rfl) rfl (by decide) ?_
        refine mw_goto 18 (dT d7_isMet 47 rfl) (by decide) ?_
        exact T
theorem s7_isMet {K : Int → mH → Prop} {x1 : Int} {h : mH} (T : A7_isMet_2 K x1 0 h) : OkI M7_isMet [mR 30 0, mI x1] h K := by
  refine Ok.of rfl (n := 4) rfl ?_
  show At (mPI K) M7_isMet 0 [mR 30 0, mI x1, mU, mU, mU, mU] [] h
  refine mw_iconst (dT d7_isMet 0 rfl) ?_
  refine mw_istore_n (dT d7_isMet 1 rfl) (by decide) ?_
  exact T
abbrev A7_kinds_20 (K : Int → mH → Prop) (x1 x2 x3 : Int) (h : mH) : Prop := At (mPI K) M7_kinds 20 [mR 30 0, mI x1, mI x2, mI x3, mU] [] h
abbrev A7_kinds_54 (K : Int → mH → Prop) (x1 x2 x3 x4 : Int) (h : mH) : Prop := At (mPI K) M7_kinds 54 [mR 30 0, mI x1, mI x2, mI x3, mI x4] [] h
theorem s7_kinds_20 {K : Int → mH → Prop} {x1 x2 x3 : Int} {h : mH} (T : OkI M7_factors [mR 30 0] h (fun v1 h1 => (mInR x3 ∧ mInR v1) ∧ (v1 ≤ x3 → ((mInR x1) ∧ (¬ x1 = 0 → (A7_kinds_54 K x1 x2 0 0 h1)) ∧ (x1 = 0 → (K x2 h1)))) ∧ (¬ v1 ≤ x3 → ((0 ≤ x3 ∧ x3 < 8) ∧ (A7_kinds_20 K x1 (x2 * (h1 35 0 x3)) (x3 + 1) h1))))) : A7_kinds_20 K x1 x2 x3 h := by
  refine mw_iload_n (dT d7_kinds 14 rfl) rfl ?_
  refine mw_aload_n (dT d7_kinds 15 rfl) rfl (by decide) ?_
  refine mw_callVI mv_7_factors ml_X7_193 (by decide) (dT d7_kinds 16 rfl) (as := []) rfl rfl T (fun v1 h1 T => ?_)
  obtain ⟨z, T1, T2⟩ := T
  refine mw_icmp_ge 43 (dT d7_kinds 17 rfl) (by decide) z (fun z => ?_) (fun z => ?_)
  · have T := T1 z
    refine mw_iload_n (dT d7_kinds 27 rfl) rfl ?_
    obtain ⟨z, T1, T2⟩ := T
    refine mw_if_ne 49 (dT d7_kinds 28 rfl) (by decide) z (fun z => ?_) (fun z => ?_)
    · have T := T1 z
      refine mw_iconst (dT d7_kinds 31 rfl) ?_
      refine mw_istore_n (dT d7_kinds 32 rfl) (by decide) ?_
      refine mw_iconst (dT d7_kinds 33 rfl) ?_
      refine mw_istore (dT d7_kinds 34 rfl) (by decide) ?_
      exact T
    · have T := T2 z
      refine mw_iload_n (dT d7_kinds 29 rfl) rfl ?_
      exact mw_iret rfl (dT d7_kinds 30 rfl) ⟨_, rfl, T⟩
  · have T := T2 z
    refine mw_iload_n (dT d7_kinds 18 rfl) rfl ?_
    refine mw_aload_n (dT d7_kinds 19 rfl) rfl (by decide) ?_
    refine mw_getR fl_X7_23 (dT d7_kinds 20 rfl) ?_
    refine mw_iload_n (dT d7_kinds 21 rfl) rfl ?_
    obtain ⟨z, T⟩ := T
    refine mw_iaload ro_35 (dT d7_kinds 22 rfl) z ?_
    refine mw_imul (dT d7_kinds 23 rfl) ?_
    refine mw_istore_n (dT d7_kinds 24 rfl) (by decide) ?_
    refine mw_iinc (dT d7_kinds 25 rfl) rfl (by decide) ?_
    refine mw_goto 20 (dT d7_kinds 26 rfl) (by decide) ?_
    exact T
theorem s7_kinds_54 {K : Int → mH → Prop} {x1 x2 x3 x4 : Int} {h : mH} (T : (mInR x4 ∧ mInR x2) ∧ (x2 ≤ x4 → (K x3 h)) ∧ (¬ x2 ≤ x4 → (OkI M7_isMet [mR 30 0, mI x4] h (fun v1 h1 => (mInR v1) ∧ (v1 = 0 → (A7_kinds_54 K x1 x2 (x3 + 1) (x4 + 1) h1)) ∧ (¬ v1 = 0 → (A7_kinds_54 K x1 x2 (x3 + 0) (x4 + 1) h1)))))) : A7_kinds_54 K x1 x2 x3 x4 h := by
  refine mw_iload (dT d7_kinds 35 rfl) rfl ?_
  refine mw_iload_n (dT d7_kinds 36 rfl) rfl ?_
  obtain ⟨z, T1, T2⟩ := T
  refine mw_icmp_ge 83 (dT d7_kinds 37 rfl) (by decide) z (fun z => ?_) (fun z => ?_)
  · have T := T1 z
    refine mw_iload_n (dT d7_kinds 50 rfl) rfl ?_
    exact mw_iret rfl (dT d7_kinds 51 rfl) ⟨_, rfl, T⟩
  · have T := T2 z
    refine mw_iload_n (dT d7_kinds 38 rfl) rfl ?_
    refine mw_aload_n (dT d7_kinds 39 rfl) rfl (by decide) ?_
    refine mw_iload (dT d7_kinds 40 rfl) rfl ?_
    refine mw_callVI mv_7_isMet ml_X7_357 (by decide) (dT d7_kinds 41 rfl) (as := [mI _]) rfl rfl T (fun v1 h1 T => ?_)
    obtain ⟨z, T1, T2⟩ := T
    refine mw_if_eq 74 (dT d7_kinds 42 rfl) (by decide) z (fun z => ?_) (fun z => ?_)
    · have T := T1 z
      refine mw_iconst (dT d7_kinds 45 rfl) ?_
      refine mw_iadd (dT d7_kinds 46 rfl) ?_
      refine mw_istore_n (dT d7_kinds 47 rfl) (by decide) ?_
      refine mw_iinc (dT d7_kinds 48 rfl) rfl (by decide) ?_
      refine mw_goto 54 (dT d7_kinds 49 rfl) (by decide) ?_
      exact T
    · have T := T2 z
      refine mw_iconst (dT d7_kinds 43 rfl) ?_
      refine mw_goto 75 (dT d7_kinds 44 rfl) (by decide) ?_
      refine mw_iadd (dT d7_kinds 46 rfl) ?_
      refine mw_istore_n (dT d7_kinds 47 rfl) (by decide) ?_
      refine mw_iinc (dT d7_kinds 48 rfl) rfl (by decide) ?_
      refine mw_goto 54 (dT d7_kinds 49 rfl) (by decide) ?_
      exact T
theorem s7_kinds {K : Int → mH → Prop} {x1 : Int} {h : mH} (T : ∀ h1 : mH, h1 = mSet h 30 0 0 0 → ((mInR x1) ∧ (x1 < 0 → (K ((-1)) h1)) ∧ (¬ x1 < 0 → ((mInR x1) ∧ (x1 ≤ 1 → (A7_kinds_20 K x1 1 0 h1)) ∧ (¬ x1 ≤ 1 → (K ((-1)) h1)))))) : OkI M7_kinds [mR 30 0, mI x1] h K := by
  refine Ok.of rfl (n := 3) rfl ?_
  show At (mPI K) M7_kinds 0 [mR 30 0, mI x1, mU, mU, mU] [] h
  refine mw_aload_n (dT d7_kinds 0 rfl) rfl (by decide) ?_
  refine mw_iconst (dT d7_kinds 1 rfl) ?_
  have T := T _ rfl
  refine mw_putI fp_X7_69 (dT d7_kinds 2 rfl) ?_
  refine mw_iload_n (dT d7_kinds 3 rfl) rfl ?_
  obtain ⟨z, T1, T2⟩ := T
  refine mw_if_lt 14 (dT d7_kinds 4 rfl) (by decide) z (fun z => ?_) (fun z => ?_)
  · have T := T1 z
    refine mw_iconst (dT d7_kinds 8 rfl) ?_
    exact mw_iret rfl (dT d7_kinds 9 rfl) ⟨_, rfl, T⟩
  · have T := T2 z
    refine mw_iload_n (dT d7_kinds 5 rfl) rfl ?_
    refine mw_iconst (dT d7_kinds 6 rfl) ?_
    obtain ⟨z, T1, T2⟩ := T
    refine mw_icmp_le 16 (dT d7_kinds 7 rfl) (by decide) ⟨z, by decide⟩ (fun z => ?_) (fun z => ?_)
    · have T := T1 z
      refine mw_iconst (dT d7_kinds 10 rfl) ?_
      refine mw_istore_n (dT d7_kinds 11 rfl) (by decide) ?_
      refine mw_iconst (dT d7_kinds 12 rfl) ?_
      refine mw_istore_n (dT d7_kinds 13 rfl) (by decide) ?_
      exact T
    · have T := T2 z
      refine mw_iconst (dT d7_kinds 8 rfl) ?_
      exact mw_iret rfl (dT d7_kinds 9 rfl) ⟨_, rfl, T⟩
theorem s7_draw {K : Int → mH → Prop} {x1 : Int} {h : mH} (T : ∀ h1 : mH, h1 = mSet h 30 0 29 (mAnd (((h 30 0 29) * 1103515245) + 12345) 2147483647) → ((mInR (mShr (h1 30 0 29) 16) ∧ mInR x1 ∧ x1 ≠ 0) ∧ (K (Int.tmod (mShr (h1 30 0 29) 16) x1) h1))) : OkI M7_draw [mR 30 0, mI x1] h K := by
  refine Ok.of rfl (n := 0) rfl ?_
  show At (mPI K) M7_draw 0 [mR 30 0, mI x1] [] h
  refine mw_aload_n (dT d7_draw 0 rfl) rfl (by decide) ?_
  refine mw_aload_n (dT d7_draw 1 rfl) rfl (by decide) ?_
  refine mw_getI fl_X7_360 (dT d7_draw 2 rfl) ?_
  refine mw_ldcw kc_X7_363 (dT d7_draw 3 rfl) ?_
  refine mw_imul (dT d7_draw 4 rfl) ?_
  refine mw_sipush (by decide) (dT d7_draw 5 rfl) ?_
  refine mw_iadd (dT d7_draw 6 rfl) ?_
  refine mw_ldcw kc_X7_364 (dT d7_draw 7 rfl) ?_
  refine mw_iand (dT d7_draw 8 rfl) ?_
  have T := T _ rfl
  refine mw_putI fp_X7_360 (dT d7_draw 9 rfl) ?_
  refine mw_aload_n (dT d7_draw 10 rfl) rfl (by decide) ?_
  refine mw_getI fl_X7_360 (dT d7_draw 11 rfl) ?_
  refine mw_bipush (by decide) (dT d7_draw 12 rfl) ?_
  refine mw_ishr (dT d7_draw 13 rfl) ?_
  refine mw_iload_n (dT d7_draw 14 rfl) rfl ?_
  obtain ⟨z, T⟩ := T
  refine mw_irem (dT d7_draw 15 rfl) z ?_
  exact mw_iret rfl (dT d7_draw 16 rfl) ⟨_, rfl, T⟩
abbrev A7_chance_91 (K : Int → mH → Prop) (x1 x2 x3 x4 x5 x6 : Int) (h : mH) : Prop := At (mPJ K) M7_chance 91 [mR 30 0, mI x1, mI x2, mI x3, mI x4, mI x5, mI x6, mU] [] h
theorem s7_chance_91 {K : Int → mH → Prop} {x1 x2 x3 x4 x5 x6 : Int} {h : mH} (T : (mInR x6 ∧ mInR x2) ∧ (x2 ≤ x6 → (OkV M7_rounds [mR 30 0, mI x4, mI ((-1))] h (fun h1 => (mInR x5) ∧ (¬ x5 = 0 → ((mInR x5) ∧ (¬ x5 = 1 → (OkI M7_unbalancedNow [mR 30 0] h1 (fun v1 h2 => (mInR v1) ∧ (OkV M7_comesBack [mR 30 0] h2 (fun h3 => K v1 h3))))) ∧ (x5 = 1 → (OkJ M7_paid [mR 30 0] h1 (fun v2 h4 => OkV M7_comesBack [mR 30 0] h4 (fun h5 => K v2 h5)))))) ∧ (x5 = 0 → (OkJ M7_misfit [mR 30 0] h1 (fun v3 h6 => OkV M7_comesBack [mR 30 0] h6 (fun h7 => K v3 h7))))))) ∧ (¬ x2 ≤ x6 → (OkI M7_many [mR 30 0] h (fun v4 h8 => OkI M7_draw [mR 30 0, mI v4] h8 (fun v5 h9 => OkI M7_draw [mR 30 0, mI (x3 + 1)] h9 (fun v6 h10 => (0 ≤ ((7 * v5) + 1) ∧ ((7 * v5) + 1) < 314) ∧ (∀ h11 : mH, h11 = mSet h10 41 0 ((7 * v5) + 1) v6 → (A7_chance_91 K x1 x2 x3 x4 x5 (x6 + 1) h11)))))))) : A7_chance_91 K x1 x2 x3 x4 x5 x6 h := by
  refine mw_iload (dT d7_chance 47 rfl) rfl ?_
  refine mw_iload_n (dT d7_chance 48 rfl) rfl ?_
  obtain ⟨z, T1, T2⟩ := T
  refine mw_icmp_ge 132 (dT d7_chance 49 rfl) (by decide) z (fun z => ?_) (fun z => ?_)
  · have T := T1 z
    refine mw_aload_n (dT d7_chance 70 rfl) rfl (by decide) ?_
    refine mw_iload (dT d7_chance 71 rfl) rfl ?_
    refine mw_iconst (dT d7_chance 72 rfl) ?_
    refine mw_callVV mv_7_rounds ml_X7_281 (by decide) (dT d7_chance 73 rfl) (as := [mI _, mI _]) rfl rfl T (fun h1 T => ?_)
    refine mw_iload (dT d7_chance 74 rfl) rfl ?_
    obtain ⟨z, T1, T2⟩ := T
    refine mw_if_ne 151 (dT d7_chance 75 rfl) (by decide) z (fun z => ?_) (fun z => ?_)
    · have T := T1 z
      refine mw_iload (dT d7_chance 79 rfl) rfl ?_
      refine mw_iconst (dT d7_chance 80 rfl) ?_
      obtain ⟨z, T1, T2⟩ := T
      refine mw_icmp_ne 164 (dT d7_chance 81 rfl) (by decide) ⟨z, by decide⟩ (fun z => ?_) (fun z => ?_)
      · have T := T1 z
        refine mw_aload_n (dT d7_chance 85 rfl) rfl (by decide) ?_
        refine mw_callVI mv_7_unbalancedNow ml_X7_284 (by decide) (dT d7_chance 86 rfl) (as := []) rfl rfl T (fun v1 h2 T => ?_)
        obtain ⟨z, T⟩ := T
        refine mw_i2l (dT d7_chance 87 rfl) z ?_
        refine mw_lstore (dT d7_chance 88 rfl) (by decide) ?_
        refine mw_aload_n (dT d7_chance 89 rfl) rfl (by decide) ?_
        refine mw_callVV mv_7_comesBack ml_X7_351 (by decide) (dT d7_chance 90 rfl) (as := []) rfl rfl T (fun h3 T => ?_)
        refine mw_lload (dT d7_chance 91 rfl) rfl ?_
        exact mw_lret rfl (dT d7_chance 92 rfl) ⟨_, rfl, T⟩
      · have T := T2 z
        refine mw_aload_n (dT d7_chance 82 rfl) rfl (by decide) ?_
        refine mw_callVJ mv_7_paid ml_X7_269 (by decide) (dT d7_chance 83 rfl) (as := []) rfl rfl T (fun v2 h4 T => ?_)
        refine mw_goto 169 (dT d7_chance 84 rfl) (by decide) ?_
        refine mw_lstore (dT d7_chance 88 rfl) (by decide) ?_
        refine mw_aload_n (dT d7_chance 89 rfl) rfl (by decide) ?_
        refine mw_callVV mv_7_comesBack ml_X7_351 (by decide) (dT d7_chance 90 rfl) (as := []) rfl rfl T (fun h5 T => ?_)
        refine mw_lload (dT d7_chance 91 rfl) rfl ?_
        exact mw_lret rfl (dT d7_chance 92 rfl) ⟨_, rfl, T⟩
    · have T := T2 z
      refine mw_aload_n (dT d7_chance 76 rfl) rfl (by decide) ?_
      refine mw_callVJ mv_7_misfit ml_X7_345 (by decide) (dT d7_chance 77 rfl) (as := []) rfl rfl T (fun v3 h6 T => ?_)
      refine mw_goto 169 (dT d7_chance 78 rfl) (by decide) ?_
      refine mw_lstore (dT d7_chance 88 rfl) (by decide) ?_
      refine mw_aload_n (dT d7_chance 89 rfl) rfl (by decide) ?_
      refine mw_callVV mv_7_comesBack ml_X7_351 (by decide) (dT d7_chance 90 rfl) (as := []) rfl rfl T (fun h7 T => ?_)
      refine mw_lload (dT d7_chance 91 rfl) rfl ?_
      exact mw_lret rfl (dT d7_chance 92 rfl) ⟨_, rfl, T⟩
  · have T := T2 z
    refine mw_aload_n (dT d7_chance 50 rfl) rfl (by decide) ?_
    refine mw_aload_n (dT d7_chance 51 rfl) rfl (by decide) ?_
    refine mw_callVI mv_7_many ml_X7_200 (by decide) (dT d7_chance 52 rfl) (as := []) rfl rfl T (fun v4 h8 T => ?_)
    refine mw_callVI mv_7_draw ml_X7_365 (by decide) (dT d7_chance 53 rfl) (as := [mI _]) rfl rfl T (fun v5 h9 T => ?_)
    refine mw_istore (dT d7_chance 54 rfl) (by decide) ?_
    refine mw_aload_n (dT d7_chance 55 rfl) rfl (by decide) ?_
    refine mw_getR fl_X7_45 (dT d7_chance 56 rfl) ?_
    refine mw_bipush (by decide) (dT d7_chance 57 rfl) ?_
    refine mw_iload (dT d7_chance 58 rfl) rfl ?_
    refine mw_imul (dT d7_chance 59 rfl) ?_
    refine mw_iconst (dT d7_chance 60 rfl) ?_
    refine mw_iadd (dT d7_chance 61 rfl) ?_
    refine mw_aload_n (dT d7_chance 62 rfl) rfl (by decide) ?_
    refine mw_iload_n (dT d7_chance 63 rfl) rfl ?_
    refine mw_iconst (dT d7_chance 64 rfl) ?_
    refine mw_iadd (dT d7_chance 65 rfl) ?_
    refine mw_callVI mv_7_draw ml_X7_365 (by decide) (dT d7_chance 66 rfl) (as := [mI _]) rfl rfl T (fun v6 h10 T => ?_)
    obtain ⟨z, T⟩ := T
    have T := T _ rfl
    refine mw_iastore ro_41 (dT d7_chance 67 rfl) z ?_
    refine mw_iinc (dT d7_chance 68 rfl) rfl (by decide) ?_
    refine mw_goto 91 (dT d7_chance 69 rfl) (by decide) ?_
    exact At.forget [7] T
theorem s7_chance {K : Int → mH → Prop} {x1 : Int} {x2 : Int} {x3 : Int} {x4 : Int} {x5 : Int} {h : mH} (T : ∀ h1 : mH, h1 = mSet h 30 0 0 0 → ((mInR x1) ∧ (x1 < ((-1)) → (K ((-1)) h1)) ∧ (¬ x1 < ((-1)) → ((mInR x2) ∧ (x2 < 1 → (K ((-1)) h1)) ∧ (¬ x2 < 1 → ((mInR x2) ∧ (60 < x2 → (K ((-1)) h1)) ∧ (¬ 60 < x2 → ((mInR x3) ∧ (x3 < 0 → (K ((-1)) h1)) ∧ (¬ x3 < 0 → ((mInR x3) ∧ (99999 < x3 → (K ((-1)) h1)) ∧ (¬ 99999 < x3 → ((mInR x4) ∧ (x4 < 0 → (K ((-1)) h1)) ∧ (¬ x4 < 0 → ((mInR x4) ∧ (20 < x4 → (K ((-1)) h1)) ∧ (¬ 20 < x4 → ((mInR x5) ∧ (x5 < 0 → (K ((-1)) h1)) ∧ (¬ x5 < 0 → ((mInR x5) ∧ (2 < x5 → (K ((-1)) h1)) ∧ (¬ 2 < x5 → (OkI M7_many [mR 30 0] h1 (fun v1 h2 => (mInR v1) ∧ (¬ v1 = 0 → ((mInR x1) ∧ (¬ x1 = ((-1)) → (∀ h3 : mH, h3 = mSet h2 30 0 29 x1 → (OkV M7_goesAside [mR 30 0] h3 (fun h4 => A7_chance_91 K x1 x2 x3 x4 x5 0 h4)))) ∧ (x1 = ((-1)) → (∀ h5 : mH, h5 = mSet h2 30 0 29 (h2 32 0 3) → (OkV M7_goesAside [mR 30 0] h5 (fun h6 => A7_chance_91 K x1 x2 x3 x4 x5 0 h6)))))) ∧ (v1 = 0 → (K ((-1)) h2))))))))))))))))))))))) : OkJ M7_chance [mR 30 0, mI x1, mI x2, mI x3, mI x4, mI x5] h K := by
  refine Ok.of rfl (n := 2) rfl ?_
  show At (mPJ K) M7_chance 0 [mR 30 0, mI x1, mI x2, mI x3, mI x4, mI x5, mU, mU] [] h
  refine mw_aload_n (dT d7_chance 0 rfl) rfl (by decide) ?_
  refine mw_iconst (dT d7_chance 1 rfl) ?_
  have T := T _ rfl
  refine mw_putI fp_X7_69 (dT d7_chance 2 rfl) ?_
  refine mw_iload_n (dT d7_chance 3 rfl) rfl ?_
  refine mw_iconst (dT d7_chance 4 rfl) ?_
  obtain ⟨z, T1, T2⟩ := T
  refine mw_icmp_lt 61 (dT d7_chance 5 rfl) (by decide) ⟨z, by decide⟩ (fun z => ?_) (fun z => ?_)
  · have T := T1 z
    refine mw_ldc2 kl_X7_307 (dT d7_chance 30 rfl) ?_
    exact mw_lret rfl (dT d7_chance 31 rfl) ⟨_, rfl, T⟩
  · have T := T2 z
    refine mw_iload_n (dT d7_chance 6 rfl) rfl ?_
    refine mw_iconst (dT d7_chance 7 rfl) ?_
    obtain ⟨z, T1, T2⟩ := T
    refine mw_icmp_lt 61 (dT d7_chance 8 rfl) (by decide) ⟨z, by decide⟩ (fun z => ?_) (fun z => ?_)
    · have T := T1 z
      refine mw_ldc2 kl_X7_307 (dT d7_chance 30 rfl) ?_
      exact mw_lret rfl (dT d7_chance 31 rfl) ⟨_, rfl, T⟩
    · have T := T2 z
      refine mw_iload_n (dT d7_chance 9 rfl) rfl ?_
      refine mw_bipush (by decide) (dT d7_chance 10 rfl) ?_
      obtain ⟨z, T1, T2⟩ := T
      refine mw_icmp_gt 61 (dT d7_chance 11 rfl) (by decide) ⟨z, by decide⟩ (fun z => ?_) (fun z => ?_)
      · have T := T1 z
        refine mw_ldc2 kl_X7_307 (dT d7_chance 30 rfl) ?_
        exact mw_lret rfl (dT d7_chance 31 rfl) ⟨_, rfl, T⟩
      · have T := T2 z
        refine mw_iload_n (dT d7_chance 12 rfl) rfl ?_
        obtain ⟨z, T1, T2⟩ := T
        refine mw_if_lt 61 (dT d7_chance 13 rfl) (by decide) z (fun z => ?_) (fun z => ?_)
        · have T := T1 z
          refine mw_ldc2 kl_X7_307 (dT d7_chance 30 rfl) ?_
          exact mw_lret rfl (dT d7_chance 31 rfl) ⟨_, rfl, T⟩
        · have T := T2 z
          refine mw_iload_n (dT d7_chance 14 rfl) rfl ?_
          refine mw_ldc kc_X7_107 (dT d7_chance 15 rfl) ?_
          obtain ⟨z, T1, T2⟩ := T
          refine mw_icmp_gt 61 (dT d7_chance 16 rfl) (by decide) ⟨z, by decide⟩ (fun z => ?_) (fun z => ?_)
          · have T := T1 z
            refine mw_ldc2 kl_X7_307 (dT d7_chance 30 rfl) ?_
            exact mw_lret rfl (dT d7_chance 31 rfl) ⟨_, rfl, T⟩
          · have T := T2 z
            refine mw_iload (dT d7_chance 17 rfl) rfl ?_
            obtain ⟨z, T1, T2⟩ := T
            refine mw_if_lt 61 (dT d7_chance 18 rfl) (by decide) z (fun z => ?_) (fun z => ?_)
            · have T := T1 z
              refine mw_ldc2 kl_X7_307 (dT d7_chance 30 rfl) ?_
              exact mw_lret rfl (dT d7_chance 31 rfl) ⟨_, rfl, T⟩
            · have T := T2 z
              refine mw_iload (dT d7_chance 19 rfl) rfl ?_
              refine mw_bipush (by decide) (dT d7_chance 20 rfl) ?_
              obtain ⟨z, T1, T2⟩ := T
              refine mw_icmp_gt 61 (dT d7_chance 21 rfl) (by decide) ⟨z, by decide⟩ (fun z => ?_) (fun z => ?_)
              · have T := T1 z
                refine mw_ldc2 kl_X7_307 (dT d7_chance 30 rfl) ?_
                exact mw_lret rfl (dT d7_chance 31 rfl) ⟨_, rfl, T⟩
              · have T := T2 z
                refine mw_iload (dT d7_chance 22 rfl) rfl ?_
                obtain ⟨z, T1, T2⟩ := T
                refine mw_if_lt 61 (dT d7_chance 23 rfl) (by decide) z (fun z => ?_) (fun z => ?_)
                · have T := T1 z
                  refine mw_ldc2 kl_X7_307 (dT d7_chance 30 rfl) ?_
                  exact mw_lret rfl (dT d7_chance 31 rfl) ⟨_, rfl, T⟩
                · have T := T2 z
                  refine mw_iload (dT d7_chance 24 rfl) rfl ?_
                  refine mw_iconst (dT d7_chance 25 rfl) ?_
                  obtain ⟨z, T1, T2⟩ := T
                  refine mw_icmp_gt 61 (dT d7_chance 26 rfl) (by decide) ⟨z, by decide⟩ (fun z => ?_) (fun z => ?_)
                  · have T := T1 z
                    refine mw_ldc2 kl_X7_307 (dT d7_chance 30 rfl) ?_
                    exact mw_lret rfl (dT d7_chance 31 rfl) ⟨_, rfl, T⟩
                  · have T := T2 z
                    refine mw_aload_n (dT d7_chance 27 rfl) rfl (by decide) ?_
                    refine mw_callVI mv_7_many ml_X7_200 (by decide) (dT d7_chance 28 rfl) (as := []) rfl rfl T (fun v1 h2 T => ?_)
                    obtain ⟨z, T1, T2⟩ := T
                    refine mw_if_ne 65 (dT d7_chance 29 rfl) (by decide) z (fun z => ?_) (fun z => ?_)
                    · have T := T1 z
                      refine mw_aload_n (dT d7_chance 32 rfl) rfl (by decide) ?_
                      refine mw_iload_n (dT d7_chance 33 rfl) rfl ?_
                      refine mw_iconst (dT d7_chance 34 rfl) ?_
                      obtain ⟨z, T1, T2⟩ := T
                      refine mw_icmp_ne 80 (dT d7_chance 35 rfl) (by decide) ⟨z, by decide⟩ (fun z => ?_) (fun z => ?_)
                      · have T := T1 z
                        refine mw_iload_n (dT d7_chance 41 rfl) rfl ?_
                        have T := T _ rfl
                        refine mw_putI fp_X7_360 (dT d7_chance 42 rfl) ?_
                        refine mw_aload_n (dT d7_chance 43 rfl) rfl (by decide) ?_
                        refine mw_callVV mv_7_goesAside ml_X7_348 (by decide) (dT d7_chance 44 rfl) (as := []) rfl rfl T (fun h4 T => ?_)
                        refine mw_iconst (dT d7_chance 45 rfl) ?_
                        refine mw_istore (dT d7_chance 46 rfl) (by decide) ?_
                        exact T
                      · have T := T2 z
                        refine mw_aload_n (dT d7_chance 36 rfl) rfl (by decide) ?_
                        refine mw_getR fl_X7_13 (dT d7_chance 37 rfl) ?_
                        refine mw_iconst (dT d7_chance 38 rfl) ?_
                        refine mw_iaload ro_32 (dT d7_chance 39 rfl) (by decide) ?_
                        refine mw_goto 81 (dT d7_chance 40 rfl) (by decide) ?_
                        have T := T _ rfl
                        refine mw_putI fp_X7_360 (dT d7_chance 42 rfl) ?_
                        refine mw_aload_n (dT d7_chance 43 rfl) rfl (by decide) ?_
                        refine mw_callVV mv_7_goesAside ml_X7_348 (by decide) (dT d7_chance 44 rfl) (as := []) rfl rfl T (fun h6 T => ?_)
                        refine mw_iconst (dT d7_chance 45 rfl) ?_
                        refine mw_istore (dT d7_chance 46 rfl) (by decide) ?_
                        exact T
                    · have T := T2 z
                      refine mw_ldc2 kl_X7_307 (dT d7_chance 30 rfl) ?_
                      exact mw_lret rfl (dT d7_chance 31 rfl) ⟨_, rfl, T⟩
abbrev A7_classes_4 (K : Int → mH → Prop) (x1 x2 x3 : Int) (h : mH) : Prop := At (mPI K) M7_classes 4 [mR 30 0, mI x1, mI x2, mI x3, mU] [] h
abbrev A7_classes_15 (K : Int → mH → Prop) (x1 x2 x3 x4 : Int) (h : mH) : Prop := At (mPI K) M7_classes 15 [mR 30 0, mI x1, mI x2, mI x3, mI x4] [] h
theorem s7_classes_4 {K : Int → mH → Prop} {x1 x2 x3 : Int} {h : mH} (T : OkI M7_factors [mR 30 0] h (fun v1 h1 => (mInR x3 ∧ mInR v1) ∧ (v1 ≤ x3 → (K x2 h1)) ∧ (¬ v1 ≤ x3 → (A7_classes_15 K x1 x2 x3 0 h1)))) : A7_classes_4 K x1 x2 x3 h := by
  refine mw_iload_n (dT d7_classes 4 rfl) rfl ?_
  refine mw_aload_n (dT d7_classes 5 rfl) rfl (by decide) ?_
  refine mw_callVI mv_7_factors ml_X7_193 (by decide) (dT d7_classes 6 rfl) (as := []) rfl rfl T (fun v1 h1 T => ?_)
  obtain ⟨z, T1, T2⟩ := T
  refine mw_icmp_ge 72 (dT d7_classes 7 rfl) (by decide) z (fun z => ?_) (fun z => ?_)
  · have T := T1 z
    refine mw_iload_n (dT d7_classes 39 rfl) rfl ?_
    exact mw_iret rfl (dT d7_classes 40 rfl) ⟨_, rfl, T⟩
  · have T := T2 z
    refine mw_iconst (dT d7_classes 8 rfl) ?_
    refine mw_istore (dT d7_classes 9 rfl) (by decide) ?_
    exact T
theorem s7_classes_15 {K : Int → mH → Prop} {x1 x2 x3 x4 : Int} {h : mH} (T : (0 ≤ x3 ∧ x3 < 8) ∧ ((mInR x4 ∧ mInR (h 35 0 x3)) ∧ ((h 35 0 x3) ≤ x4 → (A7_classes_4 K x1 x2 (x3 + 1) h)) ∧ (¬ (h 35 0 x3) ≤ x4 → (OkI M7_firstOf [mR 30 0, mI x3, mI x4] h (fun v1 h1 => (mInR v1 ∧ mInR x4) ∧ (¬ v1 = x4 → (A7_classes_15 K x1 (x2 + 0) x3 (x4 + 1) h1)) ∧ (v1 = x4 → ((mInR x1) ∧ (x1 = 0 → (A7_classes_15 K x1 (x2 + 1) x3 (x4 + 1) h1)) ∧ (¬ x1 = 0 → (OkI M7_risksOf [mR 30 0, mI x3, mI x4] h1 (fun v2 h2 => (mInR v2) ∧ (¬ v2 = 0 → (A7_classes_15 K x1 (x2 + 0) x3 (x4 + 1) h2)) ∧ (v2 = 0 → (A7_classes_15 K x1 (x2 + 1) x3 (x4 + 1) h2)))))))))))) : A7_classes_15 K x1 x2 x3 x4 h := by
  refine mw_iload (dT d7_classes 10 rfl) rfl ?_
  refine mw_aload_n (dT d7_classes 11 rfl) rfl (by decide) ?_
  refine mw_getR fl_X7_23 (dT d7_classes 12 rfl) ?_
  refine mw_iload_n (dT d7_classes 13 rfl) rfl ?_
  obtain ⟨z, T⟩ := T
  refine mw_iaload ro_35 (dT d7_classes 14 rfl) z ?_
  obtain ⟨z, T1, T2⟩ := T
  refine mw_icmp_ge 66 (dT d7_classes 15 rfl) (by decide) z (fun z => ?_) (fun z => ?_)
  · have T := T1 z
    refine mw_iinc (dT d7_classes 37 rfl) rfl (by decide) ?_
    refine mw_goto 4 (dT d7_classes 38 rfl) (by decide) ?_
    exact At.forget [4] T
  · have T := T2 z
    refine mw_iload_n (dT d7_classes 16 rfl) rfl ?_
    refine mw_aload_n (dT d7_classes 17 rfl) rfl (by decide) ?_
    refine mw_iload_n (dT d7_classes 18 rfl) rfl ?_
    refine mw_iload (dT d7_classes 19 rfl) rfl ?_
    refine mw_callVI mv_7_firstOf ml_X7_210 (by decide) (dT d7_classes 20 rfl) (as := [mI _, mI _]) rfl rfl T (fun v1 h1 T => ?_)
    refine mw_iload (dT d7_classes 21 rfl) rfl ?_
    obtain ⟨z, T1, T2⟩ := T
    refine mw_icmp_ne 57 (dT d7_classes 22 rfl) (by decide) z (fun z => ?_) (fun z => ?_)
    · have T := T1 z
      refine mw_iconst (dT d7_classes 32 rfl) ?_
      refine mw_iadd (dT d7_classes 33 rfl) ?_
      refine mw_istore_n (dT d7_classes 34 rfl) (by decide) ?_
      refine mw_iinc (dT d7_classes 35 rfl) rfl (by decide) ?_
      refine mw_goto 15 (dT d7_classes 36 rfl) (by decide) ?_
      exact T
    · have T := T2 z
      refine mw_iload_n (dT d7_classes 23 rfl) rfl ?_
      obtain ⟨z, T1, T2⟩ := T
      refine mw_if_eq 53 (dT d7_classes 24 rfl) (by decide) z (fun z => ?_) (fun z => ?_)
      · have T := T1 z
        refine mw_iconst (dT d7_classes 30 rfl) ?_
        refine mw_goto 58 (dT d7_classes 31 rfl) (by decide) ?_
        refine mw_iadd (dT d7_classes 33 rfl) ?_
        refine mw_istore_n (dT d7_classes 34 rfl) (by decide) ?_
        refine mw_iinc (dT d7_classes 35 rfl) rfl (by decide) ?_
        refine mw_goto 15 (dT d7_classes 36 rfl) (by decide) ?_
        exact T
      · have T := T2 z
        refine mw_aload_n (dT d7_classes 25 rfl) rfl (by decide) ?_
        refine mw_iload_n (dT d7_classes 26 rfl) rfl ?_
        refine mw_iload (dT d7_classes 27 rfl) rfl ?_
        refine mw_callVI mv_7_risksOf ml_X7_239 (by decide) (dT d7_classes 28 rfl) (as := [mI _, mI _]) rfl rfl T (fun v2 h2 T => ?_)
        obtain ⟨z, T1, T2⟩ := T
        refine mw_if_ne 57 (dT d7_classes 29 rfl) (by decide) z (fun z => ?_) (fun z => ?_)
        · have T := T1 z
          refine mw_iconst (dT d7_classes 32 rfl) ?_
          refine mw_iadd (dT d7_classes 33 rfl) ?_
          refine mw_istore_n (dT d7_classes 34 rfl) (by decide) ?_
          refine mw_iinc (dT d7_classes 35 rfl) rfl (by decide) ?_
          refine mw_goto 15 (dT d7_classes 36 rfl) (by decide) ?_
          exact T
        · have T := T2 z
          refine mw_iconst (dT d7_classes 30 rfl) ?_
          refine mw_goto 58 (dT d7_classes 31 rfl) (by decide) ?_
          refine mw_iadd (dT d7_classes 33 rfl) ?_
          refine mw_istore_n (dT d7_classes 34 rfl) (by decide) ?_
          refine mw_iinc (dT d7_classes 35 rfl) rfl (by decide) ?_
          refine mw_goto 15 (dT d7_classes 36 rfl) (by decide) ?_
          exact T
theorem s7_classes {K : Int → mH → Prop} {x1 : Int} {h : mH} (T : A7_classes_4 K x1 0 0 h) : OkI M7_classes [mR 30 0, mI x1] h K := by
  refine Ok.of rfl (n := 3) rfl ?_
  show At (mPI K) M7_classes 0 [mR 30 0, mI x1, mU, mU, mU] [] h
  refine mw_iconst (dT d7_classes 0 rfl) ?_
  refine mw_istore_n (dT d7_classes 1 rfl) (by decide) ?_
  refine mw_iconst (dT d7_classes 2 rfl) ?_
  refine mw_istore_n (dT d7_classes 3 rfl) (by decide) ?_
  exact T
theorem s7_count {K : Int → mH → Prop} {x1 : Int} {h : mH} (T : ∀ h1 : mH, h1 = mSet h 30 0 0 0 → (mInR x1 ∧ (x1 = 0 → (OkI M7_factors [mR 30 0] h1 (fun v1 h2 => K v1 h2))) ∧ (x1 = 1 → (OkI M7_many [mR 30 0] h1 (fun v2 h3 => K v2 h3))) ∧ (x1 = 2 → (K (h1 41 0 308) h1)) ∧ (x1 = 3 → (K (h1 32 0 1) h1)) ∧ (x1 = 4 → (K (h1 41 0 309) h1)) ∧ (x1 = 5 → (OkI M7_classes [mR 30 0, mI 0] h1 (fun v3 h4 => K v3 h4))) ∧ (x1 = 6 → (OkI M7_classes [mR 30 0, mI 1] h1 (fun v4 h5 => K v4 h5))) ∧ (x1 = 7 → (K (h1 30 0 26) h1)) ∧ (x1 = 8 → (K (h1 30 0 2) h1)) ∧ (x1 = 9 → (K (h1 41 0 311) h1)) ∧ (x1 = 10 → (K (h1 41 0 312) h1)) ∧ (x1 = 11 → (K (h1 41 0 313) h1)) ∧ (x1 < 0 ∨ 11 < x1 → (K ((-1)) h1)))) : OkI M7_count [mR 30 0, mI x1] h K := by
  refine Ok.of rfl (n := 0) rfl ?_
  show At (mPI K) M7_count 0 [mR 30 0, mI x1] [] h
  refine mw_aload_n (dT d7_count 0 rfl) rfl (by decide) ?_
  refine mw_iconst (dT d7_count 1 rfl) ?_
  have T := T _ rfl
  refine mw_putI fp_X7_69 (dT d7_count 2 rfl) ?_
  refine mw_iload_n (dT d7_count 3 rfl) rfl ?_
  obtain ⟨z, T0, T1, T2, T3, T4, T5, T6, T7, T8, T9, T10, T11, Td⟩ := T
  by_cases y0 : x1 = 0
  · have T := T0 y0
    refine mw_tableIn 68 (dT d7_count 4 rfl) z (by omega) (by omega) (by rw [y0]; rfl) (by decide) ?_
    refine mw_aload_n (dT d7_count 5 rfl) rfl (by decide) ?_
    refine mw_callVI mv_7_factors ml_X7_193 (by decide) (dT d7_count 6 rfl) (as := []) rfl rfl T (fun v1 h2 T => ?_)
    exact mw_iret rfl (dT d7_count 7 rfl) ⟨_, rfl, T⟩
  by_cases y1 : x1 = 1
  · have T := T1 y1
    refine mw_tableIn 73 (dT d7_count 4 rfl) z (by omega) (by omega) (by rw [y1]; rfl) (by decide) ?_
    refine mw_aload_n (dT d7_count 8 rfl) rfl (by decide) ?_
    refine mw_callVI mv_7_many ml_X7_200 (by decide) (dT d7_count 9 rfl) (as := []) rfl rfl T (fun v2 h3 T => ?_)
    exact mw_iret rfl (dT d7_count 10 rfl) ⟨_, rfl, T⟩
  by_cases y2 : x1 = 2
  · have T := T2 y2
    refine mw_tableIn 78 (dT d7_count 4 rfl) z (by omega) (by omega) (by rw [y2]; rfl) (by decide) ?_
    refine mw_aload_n (dT d7_count 11 rfl) rfl (by decide) ?_
    refine mw_getR fl_X7_45 (dT d7_count 12 rfl) ?_
    refine mw_sipush (by decide) (dT d7_count 13 rfl) ?_
    refine mw_iaload ro_41 (dT d7_count 14 rfl) (by decide) ?_
    exact mw_iret rfl (dT d7_count 15 rfl) ⟨_, rfl, T⟩
  by_cases y3 : x1 = 3
  · have T := T3 y3
    refine mw_tableIn 87 (dT d7_count 4 rfl) z (by omega) (by omega) (by rw [y3]; rfl) (by decide) ?_
    refine mw_aload_n (dT d7_count 16 rfl) rfl (by decide) ?_
    refine mw_getR fl_X7_13 (dT d7_count 17 rfl) ?_
    refine mw_iconst (dT d7_count 18 rfl) ?_
    refine mw_iaload ro_32 (dT d7_count 19 rfl) (by decide) ?_
    exact mw_iret rfl (dT d7_count 20 rfl) ⟨_, rfl, T⟩
  by_cases y4 : x1 = 4
  · have T := T4 y4
    refine mw_tableIn 94 (dT d7_count 4 rfl) z (by omega) (by omega) (by rw [y4]; rfl) (by decide) ?_
    refine mw_aload_n (dT d7_count 21 rfl) rfl (by decide) ?_
    refine mw_getR fl_X7_45 (dT d7_count 22 rfl) ?_
    refine mw_sipush (by decide) (dT d7_count 23 rfl) ?_
    refine mw_iaload ro_41 (dT d7_count 24 rfl) (by decide) ?_
    exact mw_iret rfl (dT d7_count 25 rfl) ⟨_, rfl, T⟩
  by_cases y5 : x1 = 5
  · have T := T5 y5
    refine mw_tableIn 103 (dT d7_count 4 rfl) z (by omega) (by omega) (by rw [y5]; rfl) (by decide) ?_
    refine mw_aload_n (dT d7_count 26 rfl) rfl (by decide) ?_
    refine mw_iconst (dT d7_count 27 rfl) ?_
    refine mw_callVI mv_7_classes ml_X7_368 (by decide) (dT d7_count 28 rfl) (as := [mI _]) rfl rfl T (fun v3 h4 T => ?_)
    exact mw_iret rfl (dT d7_count 29 rfl) ⟨_, rfl, T⟩
  by_cases y6 : x1 = 6
  · have T := T6 y6
    refine mw_tableIn 109 (dT d7_count 4 rfl) z (by omega) (by omega) (by rw [y6]; rfl) (by decide) ?_
    refine mw_aload_n (dT d7_count 30 rfl) rfl (by decide) ?_
    refine mw_iconst (dT d7_count 31 rfl) ?_
    refine mw_callVI mv_7_classes ml_X7_368 (by decide) (dT d7_count 32 rfl) (as := [mI _]) rfl rfl T (fun v4 h5 T => ?_)
    exact mw_iret rfl (dT d7_count 33 rfl) ⟨_, rfl, T⟩
  by_cases y7 : x1 = 7
  · have T := T7 y7
    refine mw_tableIn 115 (dT d7_count 4 rfl) z (by omega) (by omega) (by rw [y7]; rfl) (by decide) ?_
    refine mw_aload_n (dT d7_count 34 rfl) rfl (by decide) ?_
    refine mw_getI fl_X7_186 (dT d7_count 35 rfl) ?_
    exact mw_iret rfl (dT d7_count 36 rfl) ⟨_, rfl, T⟩
  by_cases y8 : x1 = 8
  · have T := T8 y8
    refine mw_tableIn 120 (dT d7_count 4 rfl) z (by omega) (by omega) (by rw [y8]; rfl) (by decide) ?_
    refine mw_aload_n (dT d7_count 37 rfl) rfl (by decide) ?_
    refine mw_getI fl_X7_72 (dT d7_count 38 rfl) ?_
    exact mw_iret rfl (dT d7_count 39 rfl) ⟨_, rfl, T⟩
  by_cases y9 : x1 = 9
  · have T := T9 y9
    refine mw_tableIn 125 (dT d7_count 4 rfl) z (by omega) (by omega) (by rw [y9]; rfl) (by decide) ?_
    refine mw_aload_n (dT d7_count 40 rfl) rfl (by decide) ?_
    refine mw_getR fl_X7_45 (dT d7_count 41 rfl) ?_
    refine mw_sipush (by decide) (dT d7_count 42 rfl) ?_
    refine mw_iaload ro_41 (dT d7_count 43 rfl) (by decide) ?_
    exact mw_iret rfl (dT d7_count 44 rfl) ⟨_, rfl, T⟩
  by_cases y10 : x1 = 10
  · have T := T10 y10
    refine mw_tableIn 134 (dT d7_count 4 rfl) z (by omega) (by omega) (by rw [y10]; rfl) (by decide) ?_
    refine mw_aload_n (dT d7_count 45 rfl) rfl (by decide) ?_
    refine mw_getR fl_X7_45 (dT d7_count 46 rfl) ?_
    refine mw_sipush (by decide) (dT d7_count 47 rfl) ?_
    refine mw_iaload ro_41 (dT d7_count 48 rfl) (by decide) ?_
    exact mw_iret rfl (dT d7_count 49 rfl) ⟨_, rfl, T⟩
  by_cases y11 : x1 = 11
  · have T := T11 y11
    refine mw_tableIn 143 (dT d7_count 4 rfl) z (by omega) (by omega) (by rw [y11]; rfl) (by decide) ?_
    refine mw_aload_n (dT d7_count 50 rfl) rfl (by decide) ?_
    refine mw_getR fl_X7_45 (dT d7_count 51 rfl) ?_
    refine mw_sipush (by decide) (dT d7_count 52 rfl) ?_
    refine mw_iaload ro_41 (dT d7_count 53 rfl) (by decide) ?_
    exact mw_iret rfl (dT d7_count 54 rfl) ⟨_, rfl, T⟩
  have yd : x1 < 0 ∨ 11 < x1 := by omega
  have T := Td yd
  refine mw_tableOut 152 (dT d7_count 4 rfl) z yd (by decide) ?_
  refine mw_iconst (dT d7_count 55 rfl) ?_
  exact mw_iret rfl (dT d7_count 56 rfl) ⟨_, rfl, T⟩
