/-! the law: its cases. By program (wip/whole/mk_law.py). -/
theorem KC.mk1 {v0 : Int} {s0 : Sg} {h h2 : mH} (c : CG h2 s0) (d : FrM h h2) : KC (P1 v0 s0) h v0 h2 := ⟨s0, ⟨rfl, rfl⟩, c, d⟩
theorem KC.in1 {cc : Prop} {v1 v0 : Int} {s1 s0 : Sg} {h h2 : mH} (a : cc) (c : CG h2 s1) (d : FrM h h2) : KC (P2 cc v1 s1 v0 s0) h v1 h2 := ⟨s1, Or.inl ⟨a, rfl, rfl⟩, c, d⟩
theorem KC.in0 {cc : Prop} {v1 v0 : Int} {s1 s0 : Sg} {h h2 : mH} (a : ¬ cc) (c : CG h2 s0) (d : FrM h h2) : KC (P2 cc v1 s1 v0 s0) h v0 h2 := ⟨s0, Or.inr ⟨a, rfl, rfl⟩, c, d⟩
theorem KC.t1 {cc dd : Prop} {v1 v2 v0 : Int} {s1 s2 s0 : Sg} {h h2 : mH} (a : cc) (b : dd) (c : CG h2 s1) (d : FrM h h2) : KC (P3 cc dd v1 s1 v2 s2 v0 s0) h v1 h2 := ⟨s1, Or.inl ⟨⟨a, b⟩, rfl, rfl⟩, c, d⟩
theorem KC.t2 {cc dd : Prop} {v1 v2 v0 : Int} {s1 s2 s0 : Sg} {h h2 : mH} (a : cc) (b : ¬ dd) (c : CG h2 s2) (d : FrM h h2) : KC (P3 cc dd v1 s1 v2 s2 v0 s0) h v2 h2 := ⟨s2, Or.inr (Or.inl ⟨⟨a, b⟩, rfl, rfl⟩), c, d⟩
theorem KC.t0 {cc dd : Prop} {v1 v2 v0 : Int} {s1 s2 s0 : Sg} {h h2 : mH} (a : ¬ cc) (c : CG h2 s0) (d : FrM h h2) : KC (P3 cc dd v1 s1 v2 s2 v0 s0) h v0 h2 := ⟨s0, Or.inr (Or.inr ⟨a, rfl, rfl⟩), c, d⟩
theorem KR.mk1 {v0 : Int} {s0 : Sg} {h h2 : mH} (c : RG h2 s0) (d : FrC h h2) : KR (P1 v0 s0) h v0 h2 := ⟨s0, ⟨rfl, rfl⟩, c, d⟩
theorem KR.in1 {cc : Prop} {v1 v0 : Int} {s1 s0 : Sg} {h h2 : mH} (a : cc) (c : RG h2 s1) (d : FrC h h2) : KR (P2 cc v1 s1 v0 s0) h v1 h2 := ⟨s1, Or.inl ⟨a, rfl, rfl⟩, c, d⟩
theorem KR.in0 {cc : Prop} {v1 v0 : Int} {s1 s0 : Sg} {h h2 : mH} (a : ¬ cc) (c : RG h2 s0) (d : FrC h h2) : KR (P2 cc v1 s1 v0 s0) h v0 h2 := ⟨s0, Or.inr ⟨a, rfl, rfl⟩, c, d⟩
theorem KR.t1 {cc dd : Prop} {v1 v2 v0 : Int} {s1 s2 s0 : Sg} {h h2 : mH} (a : cc) (b : dd) (c : RG h2 s1) (d : FrC h h2) : KR (P3 cc dd v1 s1 v2 s2 v0 s0) h v1 h2 := ⟨s1, Or.inl ⟨⟨a, b⟩, rfl, rfl⟩, c, d⟩
theorem KR.t2 {cc dd : Prop} {v1 v2 v0 : Int} {s1 s2 s0 : Sg} {h h2 : mH} (a : cc) (b : ¬ dd) (c : RG h2 s2) (d : FrC h h2) : KR (P3 cc dd v1 s1 v2 s2 v0 s0) h v2 h2 := ⟨s2, Or.inr (Or.inl ⟨⟨a, b⟩, rfl, rfl⟩), c, d⟩
theorem KR.t0 {cc dd : Prop} {v1 v2 v0 : Int} {s1 s2 s0 : Sg} {h h2 : mH} (a : ¬ cc) (c : RG h2 s0) (d : FrC h h2) : KR (P3 cc dd v1 s1 v2 s2 v0 s0) h v0 h2 := ⟨s0, Or.inr (Or.inr ⟨a, rfl, rfl⟩), c, d⟩
theorem lc_feed {n : Nat} {xs : Nat → Int32} {k : Nat} {i : Int} {h : mH} {σ : Sg} (hk : k < 600) (hn : n ≤ 3072) (hij : 0 ≤ i ∧ i + 5 < n) (C : CG h σ) (R : RG h σ) (J : ∀ h2 s2, CG h2 s2 → RG h2 s2 → At (LwP n xs (k + 1)) ML_law 1611 [mR 70 0, mR 25 0, mR 30 0, mR 46 0, mI i, mU, mU] [] h2) : At (LwP n xs k) ML_law 232 [mR 70 0, mR 25 0, mR 30 0, mR 46 0, mI i, mU, mU] [] h := by
  refine mw_aload_n (dT dLw_feed 0 rfl) rfl (by decide) ?_
  refine ld (dT dLw_feed 1 rfl) (dT dLw_feed 2 rfl) (dT dLw_feed 3 rfl) (dT dLw_feed 4 rfl) (dT dLw_feed 5 rfl) rfl rfl hn (by omega) ?_
  refine ld (dT dLw_feed 6 rfl) (dT dLw_feed 7 rfl) (dT dLw_feed 8 rfl) (dT dLw_feed 9 rfl) (dT dLw_feed 10 rfl) rfl rfl hn (by omega) ?_
  refine ld (dT dLw_feed 11 rfl) (dT dLw_feed 12 rfl) (dT dLw_feed 13 rfl) (dT dLw_feed 14 rfl) (dT dLw_feed 15 rfl) rfl rfl hn (by omega) ?_
  refine ld (dT dLw_feed 16 rfl) (dT dLw_feed 17 rfl) (dT dLw_feed 18 rfl) (dT dLw_feed 19 rfl) (dT dLw_feed 20 rfl) rfl rfl hn (by omega) ?_
  refine ld (dT dLw_feed 21 rfl) (dT dLw_feed 22 rfl) (dT dLw_feed 23 rfl) (dT dLw_feed 24 rfl) (dT dLw_feed 25 rfl) rfl rfl hn (by omega) ?_
  refine mw_callVI mv_6_feed ml_L_21 (by decide) (dT dLw_feed 26 rfl) (as := [mI _, mI _, mI _, mI _, mI _]) rfl rfl (m_feed C (K := KC (P2 ((gT σ).1 ≤ 880) ((gT σ).1 + 20) (fdS σ (xv xs (i + 1)) (xv xs (i + 2)) (xv xs (i + 3)) (xv xs (i + 4)) (xv xs (i + 5))) (-1) σ) h) (fun a h2 c d => KC.in1 a c d) (fun a h2 c d => KC.in0 a c d)) (fun v h2 T => ?_)
  obtain ⟨s2, hv, C2, F2⟩ := T
  refine mw_aload_n (dT dLw_feed 27 rfl) rfl (by decide) ?_
  refine ld (dT dLw_feed 28 rfl) (dT dLw_feed 29 rfl) (dT dLw_feed 30 rfl) (dT dLw_feed 31 rfl) (dT dLw_feed 32 rfl) rfl rfl hn (by omega) ?_
  refine ld (dT dLw_feed 33 rfl) (dT dLw_feed 34 rfl) (dT dLw_feed 35 rfl) (dT dLw_feed 36 rfl) (dT dLw_feed 37 rfl) rfl rfl hn (by omega) ?_
  refine ld (dT dLw_feed 38 rfl) (dT dLw_feed 39 rfl) (dT dLw_feed 40 rfl) (dT dLw_feed 41 rfl) (dT dLw_feed 42 rfl) rfl rfl hn (by omega) ?_
  refine ld (dT dLw_feed 43 rfl) (dT dLw_feed 44 rfl) (dT dLw_feed 45 rfl) (dT dLw_feed 46 rfl) (dT dLw_feed 47 rfl) rfl rfl hn (by omega) ?_
  refine ld (dT dLw_feed 48 rfl) (dT dLw_feed 49 rfl) (dT dLw_feed 50 rfl) (dT dLw_feed 51 rfl) (dT dLw_feed 52 rfl) rfl rfl hn (by omega) ?_
  refine mw_callVI mv_7_feed ml_L_25 (by decide) (dT dLw_feed 53 rfl) (as := [mI _, mI _, mI _, mI _, mI _]) rfl rfl (r_feed (R.frM F2) (K := KR (P2 ((gT σ).1 ≤ 880) ((gT σ).1 + 20) (fdS σ (xv xs (i + 1)) (xv xs (i + 2)) (xv xs (i + 3)) (xv xs (i + 4)) (xv xs (i + 5))) (-1) σ) h2) (fun a h2 c d => KR.in1 a c d) (fun a h2 c d => KR.in0 a c d)) (fun v3 h3 T => ?_)
  obtain ⟨s3, hw, R3, F3⟩ := T
  obtain ⟨rfl, rfl⟩ := hv.fn hw
  refine mw_icmp_same 1611 (dT dLw_feed 54 rfl) (by decide) ?_
  exact LwP.bump hk (J h3 _ (C2.frC F3) R3)
theorem lc_text {n : Nat} {xs : Nat → Int32} {k : Nat} {i : Int} {h : mH} {σ : Sg} (hk : k < 600) (hn : n ≤ 3072) (hij : 0 ≤ i ∧ i + 5 < n) (C : CG h σ) (R : RG h σ) (J : ∀ h2 s2, CG h2 s2 → RG h2 s2 → At (LwP n xs (k + 1)) ML_law 1611 [mR 70 0, mR 25 0, mR 30 0, mR 46 0, mI i, mU, mU] [] h2) : At (LwP n xs k) ML_law 305 [mR 70 0, mR 25 0, mR 30 0, mR 46 0, mI i, mU, mU] [] h := by
  refine mw_aload_n (dT dLw_text 0 rfl) rfl (by decide) ?_
  refine ld (dT dLw_text 1 rfl) (dT dLw_text 2 rfl) (dT dLw_text 3 rfl) (dT dLw_text 4 rfl) (dT dLw_text 5 rfl) rfl rfl hn (by omega) ?_
  refine mw_callVI mv_6_text ml_L_26 (by decide) (dT dLw_text 6 rfl) (as := [mI _]) rfl rfl (m_text C (xv_r xs _) (K := KC (P1 (q_text σ (xv xs (i + 1))) (s_text σ (xv xs (i + 1)))) h) (fun h2 c d => KC.mk1 c d)) (fun v h2 T => ?_)
  obtain ⟨s2, hv, C2, F2⟩ := T
  refine mw_aload_n (dT dLw_text 7 rfl) rfl (by decide) ?_
  refine ld (dT dLw_text 8 rfl) (dT dLw_text 9 rfl) (dT dLw_text 10 rfl) (dT dLw_text 11 rfl) (dT dLw_text 12 rfl) rfl rfl hn (by omega) ?_
  refine mw_callVI mv_7_text ml_L_30 (by decide) (dT dLw_text 13 rfl) (as := [mI _]) rfl rfl (r_text (R.frM F2) (xv_r xs _) (K := KR (P1 (q_text σ (xv xs (i + 1))) (s_text σ (xv xs (i + 1)))) h2) (fun h2 c d => KR.mk1 c d)) (fun v3 h3 T => ?_)
  obtain ⟨s3, hw, R3, F3⟩ := T
  obtain ⟨rfl, rfl⟩ := hv.fn hw
  refine mw_icmp_same 1611 (dT dLw_text 14 rfl) (by decide) ?_
  exact LwP.bump hk (J h3 _ (C2.frC F3) R3)
theorem lc_fault {n : Nat} {xs : Nat → Int32} {k : Nat} {i : Int} {h : mH} {σ : Sg} (hk : k < 600) (hn : n ≤ 3072) (hij : 0 ≤ i ∧ i + 5 < n) (C : CG h σ) (R : RG h σ) (J : ∀ h2 s2, CG h2 s2 → RG h2 s2 → At (LwP n xs (k + 1)) ML_law 1611 [mR 70 0, mR 25 0, mR 30 0, mR 46 0, mI i, mU, mU] [] h2) : At (LwP n xs k) ML_law 330 [mR 70 0, mR 25 0, mR 30 0, mR 46 0, mI i, mU, mU] [] h := by
  refine mw_aload_n (dT dLw_fault 0 rfl) rfl (by decide) ?_
  refine ld (dT dLw_fault 1 rfl) (dT dLw_fault 2 rfl) (dT dLw_fault 3 rfl) (dT dLw_fault 4 rfl) (dT dLw_fault 5 rfl) rfl rfl hn (by omega) ?_
  refine mw_callVI mv_6_fault ml_L_31 (by decide) (dT dLw_fault 6 rfl) (as := [mI _]) rfl rfl (m_fault C (xv_r xs _) (K := KC (P1 (q_fault σ (xv xs (i + 1))) σ) h) (fun h2 c d => KC.mk1 c d)) (fun v h2 T => ?_)
  obtain ⟨s2, hv, C2, F2⟩ := T
  refine mw_aload_n (dT dLw_fault 7 rfl) rfl (by decide) ?_
  refine ld (dT dLw_fault 8 rfl) (dT dLw_fault 9 rfl) (dT dLw_fault 10 rfl) (dT dLw_fault 11 rfl) (dT dLw_fault 12 rfl) rfl rfl hn (by omega) ?_
  refine mw_callVI mv_7_fault ml_L_34 (by decide) (dT dLw_fault 13 rfl) (as := [mI _]) rfl rfl (r_fault (R.frM F2) (xv_r xs _) (K := KR (P1 (q_fault σ (xv xs (i + 1))) σ) h2) (fun h2 c d => KR.mk1 c d)) (fun v3 h3 T => ?_)
  obtain ⟨s3, hw, R3, F3⟩ := T
  obtain ⟨rfl, rfl⟩ := hv.fn hw
  refine mw_icmp_same 1611 (dT dLw_fault 14 rfl) (by decide) ?_
  exact LwP.bump hk (J h3 _ (C2.frC F3) R3)
theorem lc_named {n : Nat} {xs : Nat → Int32} {k : Nat} {i : Int} {h : mH} {σ : Sg} (hk : k < 600) (hn : n ≤ 3072) (hij : 0 ≤ i ∧ i + 5 < n) (C : CG h σ) (R : RG h σ) (J : ∀ h2 s2, CG h2 s2 → RG h2 s2 → At (LwP n xs (k + 1)) ML_law 1611 [mR 70 0, mR 25 0, mR 30 0, mR 46 0, mI i, mU, mU] [] h2) : At (LwP n xs k) ML_law 355 [mR 70 0, mR 25 0, mR 30 0, mR 46 0, mI i, mU, mU] [] h := by
  refine mw_aload_n (dT dLw_named 0 rfl) rfl (by decide) ?_
  refine ld (dT dLw_named 1 rfl) (dT dLw_named 2 rfl) (dT dLw_named 3 rfl) (dT dLw_named 4 rfl) (dT dLw_named 5 rfl) rfl rfl hn (by omega) ?_
  refine mw_callVI mv_6_named ml_L_35 (by decide) (dT dLw_named 6 rfl) (as := [mI _]) rfl rfl (m_named C (xv_r xs _) (K := KC (P1 (q_named σ (xv xs (i + 1))) σ) h) (fun h2 c d => KC.mk1 c d)) (fun v h2 T => ?_)
  obtain ⟨s2, hv, C2, F2⟩ := T
  refine mw_aload_n (dT dLw_named 7 rfl) rfl (by decide) ?_
  refine ld (dT dLw_named 8 rfl) (dT dLw_named 9 rfl) (dT dLw_named 10 rfl) (dT dLw_named 11 rfl) (dT dLw_named 12 rfl) rfl rfl hn (by omega) ?_
  refine mw_callVI mv_7_named ml_L_38 (by decide) (dT dLw_named 13 rfl) (as := [mI _]) rfl rfl (r_named (R.frM F2) (xv_r xs _) (K := KR (P1 (q_named σ (xv xs (i + 1))) σ) h2) (fun h2 c d => KR.mk1 c d)) (fun v3 h3 T => ?_)
  obtain ⟨s3, hw, R3, F3⟩ := T
  obtain ⟨rfl, rfl⟩ := hv.fn hw
  refine mw_icmp_same 1611 (dT dLw_named 14 rfl) (by decide) ?_
  exact LwP.bump hk (J h3 _ (C2.frC F3) R3)
theorem lc_turn {n : Nat} {xs : Nat → Int32} {k : Nat} {i : Int} {h : mH} {σ : Sg} (hk : k < 600) (hn : n ≤ 3072) (hij : 0 ≤ i ∧ i + 5 < n) (C : CG h σ) (R : RG h σ) (J : ∀ h2 s2, CG h2 s2 → RG h2 s2 → At (LwP n xs (k + 1)) ML_law 1611 [mR 70 0, mR 25 0, mR 30 0, mR 46 0, mI i, mU, mU] [] h2) : At (LwP n xs k) ML_law 380 [mR 70 0, mR 25 0, mR 30 0, mR 46 0, mI i, mU, mU] [] h := by
  refine mw_aload_n (dT dLw_turn 0 rfl) rfl (by decide) ?_
  refine ld (dT dLw_turn 1 rfl) (dT dLw_turn 2 rfl) (dT dLw_turn 3 rfl) (dT dLw_turn 4 rfl) (dT dLw_turn 5 rfl) rfl rfl hn (by omega) ?_
  refine mw_callVI mv_6_turn ml_L_39 (by decide) (dT dLw_turn 6 rfl) (as := [mI _]) rfl rfl (m_turn C (xv_r xs _) (K := KC (P2 (0 ≤ (xv xs (i + 1)) ∧ (xv xs (i + 1)) < nf (gP σ)) (tc (gP σ) (gS σ) (xv xs (i + 1))) (toS (pus σ) (tuS (gP σ) (gS σ) (xv xs (i + 1)))) (-1) σ) h) (fun a b h2 c d => KC.in1 ⟨a, b⟩ c d) (fun a h2 c d => KC.in0 a c d)) (fun v h2 T => ?_)
  obtain ⟨s2, hv, C2, F2⟩ := T
  refine mw_aload_n (dT dLw_turn 7 rfl) rfl (by decide) ?_
  refine ld (dT dLw_turn 8 rfl) (dT dLw_turn 9 rfl) (dT dLw_turn 10 rfl) (dT dLw_turn 11 rfl) (dT dLw_turn 12 rfl) rfl rfl hn (by omega) ?_
  refine mw_callVI mv_7_turn ml_L_42 (by decide) (dT dLw_turn 13 rfl) (as := [mI _]) rfl rfl (r_turn (R.frM F2) (xv_r xs _) (K := KR (P2 (0 ≤ (xv xs (i + 1)) ∧ (xv xs (i + 1)) < nf (gP σ)) (tc (gP σ) (gS σ) (xv xs (i + 1))) (toS (pus σ) (tuS (gP σ) (gS σ) (xv xs (i + 1)))) (-1) σ) h2) (fun a b h2 c d => KR.in1 ⟨a, b⟩ c d) (fun a h2 c d => KR.in0 a c d)) (fun v3 h3 T => ?_)
  obtain ⟨s3, hw, R3, F3⟩ := T
  obtain ⟨rfl, rfl⟩ := hv.fn hw
  refine mw_icmp_same 1611 (dT dLw_turn 14 rfl) (by decide) ?_
  exact LwP.bump hk (J h3 _ (C2.frC F3) R3)
theorem lc_round {n : Nat} {xs : Nat → Int32} {k : Nat} {i : Int} {h : mH} {σ : Sg} (hk : k < 600) (hn : n ≤ 3072) (hij : 0 ≤ i ∧ i + 5 < n) (C : CG h σ) (R : RG h σ) (J : ∀ h2 s2, CG h2 s2 → RG h2 s2 → At (LwP n xs (k + 1)) ML_law 1611 [mR 70 0, mR 25 0, mR 30 0, mR 46 0, mI i, mU, mU] [] h2) : At (LwP n xs k) ML_law 405 [mR 70 0, mR 25 0, mR 30 0, mR 46 0, mI i, mU, mU] [] h := by
  refine mw_aload_n (dT dLw_round 0 rfl) rfl (by decide) ?_
  refine ld (dT dLw_round 1 rfl) (dT dLw_round 2 rfl) (dT dLw_round 3 rfl) (dT dLw_round 4 rfl) (dT dLw_round 5 rfl) rfl rfl hn (by omega) ?_
  refine mw_callVI mv_6_round ml_L_43 (by decide) (dT dLw_round 6 rfl) (as := [mI _]) rfl rfl (m_round C (xv_r xs _) (K := KC (P2 (1 ≤ (xv xs (i + 1)) ∧ (xv xs (i + 1)) ≤ 50) (unb (gP σ) (rn (gP σ) (-1) (xv xs (i + 1)) (gS σ))) (toS (pus σ) (rn (gP σ) (-1) (xv xs (i + 1)) (gS σ))) (-1) σ) h) (fun a b h2 c d => KC.in1 ⟨a, b⟩ c d) (fun a h2 c d => KC.in0 a c d)) (fun v h2 T => ?_)
  obtain ⟨s2, hv, C2, F2⟩ := T
  refine mw_aload_n (dT dLw_round 7 rfl) rfl (by decide) ?_
  refine ld (dT dLw_round 8 rfl) (dT dLw_round 9 rfl) (dT dLw_round 10 rfl) (dT dLw_round 11 rfl) (dT dLw_round 12 rfl) rfl rfl hn (by omega) ?_
  refine mw_callVI mv_7_round ml_L_46 (by decide) (dT dLw_round 13 rfl) (as := [mI _]) rfl rfl (r_round (R.frM F2) (xv_r xs _) (K := KR (P2 (1 ≤ (xv xs (i + 1)) ∧ (xv xs (i + 1)) ≤ 50) (unb (gP σ) (rn (gP σ) (-1) (xv xs (i + 1)) (gS σ))) (toS (pus σ) (rn (gP σ) (-1) (xv xs (i + 1)) (gS σ))) (-1) σ) h2) (fun a b h2 c d => KR.in1 ⟨a, b⟩ c d) (fun a h2 c d => KR.in0 a c d)) (fun v3 h3 T => ?_)
  obtain ⟨s3, hw, R3, F3⟩ := T
  obtain ⟨rfl, rfl⟩ := hv.fn hw
  refine mw_icmp_same 1611 (dT dLw_round 14 rfl) (by decide) ?_
  exact LwP.bump hk (J h3 _ (C2.frC F3) R3)
theorem lc_rebase {n : Nat} {xs : Nat → Int32} {k : Nat} {i : Int} {h : mH} {σ : Sg} (hk : k < 600) (hn : n ≤ 3072) (hij : 0 ≤ i ∧ i + 5 < n) (C : CG h σ) (R : RG h σ) (J : ∀ h2 s2, CG h2 s2 → RG h2 s2 → At (LwP n xs (k + 1)) ML_law 1611 [mR 70 0, mR 25 0, mR 30 0, mR 46 0, mI i, mU, mU] [] h2) : At (LwP n xs k) ML_law 430 [mR 70 0, mR 25 0, mR 30 0, mR 46 0, mI i, mU, mU] [] h := by
  refine mw_aload_n (dT dLw_rebase 0 rfl) rfl (by decide) ?_
  refine mw_callVI mv_6_rebase ml_L_47 (by decide) (dT dLw_rebase 1 rfl) (as := []) rfl rfl (m_rebase C (K := KC (P1 (rbS (gP σ) (gS σ) 308) (toS (pus σ) (rbS (gP σ) (gS σ)))) h) (fun h2 c d => KC.mk1 c d)) (fun v h2 T => ?_)
  obtain ⟨s2, hv, C2, F2⟩ := T
  refine mw_aload_n (dT dLw_rebase 2 rfl) rfl (by decide) ?_
  refine mw_callVI mv_7_rebase ml_L_51 (by decide) (dT dLw_rebase 3 rfl) (as := []) rfl rfl (r_rebase (R.frM F2) (K := KR (P1 (rbS (gP σ) (gS σ) 308) (toS (pus σ) (rbS (gP σ) (gS σ)))) h2) (fun h2 c d => KR.mk1 c d)) (fun v3 h3 T => ?_)
  obtain ⟨s3, hw, R3, F3⟩ := T
  obtain ⟨rfl, rfl⟩ := hv.fn hw
  refine mw_icmp_same 1611 (dT dLw_rebase 4 rfl) (by decide) ?_
  exact LwP.bump hk (J h3 _ (C2.frC F3) R3)
theorem lc_level {n : Nat} {xs : Nat → Int32} {k : Nat} {i : Int} {h : mH} {σ : Sg} (hk : k < 600) (hn : n ≤ 3072) (hij : 0 ≤ i ∧ i + 5 < n) (C : CG h σ) (R : RG h σ) (J : ∀ h2 s2, CG h2 s2 → RG h2 s2 → At (LwP n xs (k + 1)) ML_law 1611 [mR 70 0, mR 25 0, mR 30 0, mR 46 0, mI i, mU, mU] [] h2) : At (LwP n xs k) ML_law 443 [mR 70 0, mR 25 0, mR 30 0, mR 46 0, mI i, mU, mU] [] h := by
  refine mw_aload_n (dT dLw_level 0 rfl) rfl (by decide) ?_
  refine mw_callVI mv_6_level ml_L_52 (by decide) (dT dLw_level 1 rfl) (as := []) rfl rfl (m_level C (K := KC (P1 (lvS (gP σ) (gS σ) 308) (toS (pus σ) (lvS (gP σ) (gS σ)))) h) (fun h2 c d => KC.mk1 c d)) (fun v h2 T => ?_)
  obtain ⟨s2, hv, C2, F2⟩ := T
  refine mw_aload_n (dT dLw_level 2 rfl) rfl (by decide) ?_
  refine mw_callVI mv_7_level ml_L_55 (by decide) (dT dLw_level 3 rfl) (as := []) rfl rfl (r_level (R.frM F2) (K := KR (P1 (lvS (gP σ) (gS σ) 308) (toS (pus σ) (lvS (gP σ) (gS σ)))) h2) (fun h2 c d => KR.mk1 c d)) (fun v3 h3 T => ?_)
  obtain ⟨s3, hw, R3, F3⟩ := T
  obtain ⟨rfl, rfl⟩ := hv.fn hw
  refine mw_icmp_same 1611 (dT dLw_level 4 rfl) (by decide) ?_
  exact LwP.bump hk (J h3 _ (C2.frC F3) R3)
theorem lc_relativity {n : Nat} {xs : Nat → Int32} {k : Nat} {i : Int} {h : mH} {σ : Sg} (hk : k < 600) (hn : n ≤ 3072) (hij : 0 ≤ i ∧ i + 5 < n) (C : CG h σ) (R : RG h σ) (J : ∀ h2 s2, CG h2 s2 → RG h2 s2 → At (LwP n xs (k + 1)) ML_law 1611 [mR 70 0, mR 25 0, mR 30 0, mR 46 0, mI i, mU, mU] [] h2) : At (LwP n xs k) ML_law 456 [mR 70 0, mR 25 0, mR 30 0, mR 46 0, mI i, mU, mU] [] h := by
  refine mw_aload_n (dT dLw_relativity 0 rfl) rfl (by decide) ?_
  refine ld (dT dLw_relativity 1 rfl) (dT dLw_relativity 2 rfl) (dT dLw_relativity 3 rfl) (dT dLw_relativity 4 rfl) (dT dLw_relativity 5 rfl) rfl rfl hn (by omega) ?_
  refine ld (dT dLw_relativity 6 rfl) (dT dLw_relativity 7 rfl) (dT dLw_relativity 8 rfl) (dT dLw_relativity 9 rfl) (dT dLw_relativity 10 rfl) rfl rfl hn (by omega) ?_
  refine ld (dT dLw_relativity 11 rfl) (dT dLw_relativity 12 rfl) (dT dLw_relativity 13 rfl) (dT dLw_relativity 14 rfl) (dT dLw_relativity 15 rfl) rfl rfl hn (by omega) ?_
  refine mw_callVI mv_6_relativity ml_L_56 (by decide) (dT dLw_relativity 16 rfl) (as := [mI _, mI _, mI _]) rfl rfl (m_relativity C (xv_r xs _) (xv_r xs _) (xv_r xs _) (K := KC (P2 (VLv σ (xv xs (i + 1)) (xv xs (i + 2)) ∧ lo (gP σ) (xv xs (i + 1)) ≤ (xv xs (i + 3)) ∧ (xv xs (i + 3)) ≤ hi (gP σ) (xv xs (i + 1))) (gS σ (280 + 6 * (xv xs (i + 1)) + (xv xs (i + 2)))) (toS (pus σ) (reS (gS σ) (xv xs (i + 1)) (xv xs (i + 2)) (xv xs (i + 3)))) (-1) σ) h) (fun a b e h2 c d => KC.in1 ⟨a, b, e⟩ c d) (fun a h2 c d => KC.in0 a c d)) (fun v h2 T => ?_)
  obtain ⟨s2, hv, C2, F2⟩ := T
  refine mw_aload_n (dT dLw_relativity 17 rfl) rfl (by decide) ?_
  refine ld (dT dLw_relativity 18 rfl) (dT dLw_relativity 19 rfl) (dT dLw_relativity 20 rfl) (dT dLw_relativity 21 rfl) (dT dLw_relativity 22 rfl) rfl rfl hn (by omega) ?_
  refine ld (dT dLw_relativity 23 rfl) (dT dLw_relativity 24 rfl) (dT dLw_relativity 25 rfl) (dT dLw_relativity 26 rfl) (dT dLw_relativity 27 rfl) rfl rfl hn (by omega) ?_
  refine ld (dT dLw_relativity 28 rfl) (dT dLw_relativity 29 rfl) (dT dLw_relativity 30 rfl) (dT dLw_relativity 31 rfl) (dT dLw_relativity 32 rfl) rfl rfl hn (by omega) ?_
  refine mw_callVI mv_7_relativity ml_L_60 (by decide) (dT dLw_relativity 33 rfl) (as := [mI _, mI _, mI _]) rfl rfl (r_relativity (R.frM F2) (xv_r xs _) (xv_r xs _) (xv_r xs _) (K := KR (P2 (VLv σ (xv xs (i + 1)) (xv xs (i + 2)) ∧ lo (gP σ) (xv xs (i + 1)) ≤ (xv xs (i + 3)) ∧ (xv xs (i + 3)) ≤ hi (gP σ) (xv xs (i + 1))) (gS σ (280 + 6 * (xv xs (i + 1)) + (xv xs (i + 2)))) (toS (pus σ) (reS (gS σ) (xv xs (i + 1)) (xv xs (i + 2)) (xv xs (i + 3)))) (-1) σ) h2) (fun a b e h2 c d => KR.in1 ⟨a, b, e⟩ c d) (fun a h2 c d => KR.in0 a c d)) (fun v3 h3 T => ?_)
  obtain ⟨s3, hw, R3, F3⟩ := T
  obtain ⟨rfl, rfl⟩ := hv.fn hw
  refine mw_icmp_same 1611 (dT dLw_relativity 34 rfl) (by decide) ?_
  exact LwP.bump hk (J h3 _ (C2.frC F3) R3)
theorem lc_claims {n : Nat} {xs : Nat → Int32} {k : Nat} {i : Int} {h : mH} {σ : Sg} (hk : k < 600) (hn : n ≤ 3072) (hij : 0 ≤ i ∧ i + 5 < n) (C : CG h σ) (R : RG h σ) (J : ∀ h2 s2, CG h2 s2 → RG h2 s2 → At (LwP n xs (k + 1)) ML_law 1611 [mR 70 0, mR 25 0, mR 30 0, mR 46 0, mI i, mU, mU] [] h2) : At (LwP n xs k) ML_law 505 [mR 70 0, mR 25 0, mR 30 0, mR 46 0, mI i, mU, mU] [] h := by
  refine mw_aload_n (dT dLw_claims 0 rfl) rfl (by decide) ?_
  refine ld (dT dLw_claims 1 rfl) (dT dLw_claims 2 rfl) (dT dLw_claims 3 rfl) (dT dLw_claims 4 rfl) (dT dLw_claims 5 rfl) rfl rfl hn (by omega) ?_
  refine ld (dT dLw_claims 6 rfl) (dT dLw_claims 7 rfl) (dT dLw_claims 8 rfl) (dT dLw_claims 9 rfl) (dT dLw_claims 10 rfl) rfl rfl hn (by omega) ?_
  refine mw_callVI mv_6_claims ml_L_61 (by decide) (dT dLw_claims 11 rfl) (as := [mI _, mI _]) rfl rfl (m_claims C (xv_r xs _) (xv_r xs _) (K := KC (P2 (VR σ (xv xs (i + 1)) ∧ 0 ≤ (xv xs (i + 2)) ∧ (xv xs (i + 2)) ≤ 99999) (gS σ (7 * (xv xs (i + 1)) + 1)) (toS (pus σ) (up (gS σ) (7 * (xv xs (i + 1)) + 1) (xv xs (i + 2)))) (-1) σ) h) (fun a b e h2 c d => KC.in1 ⟨a, b, e⟩ c d) (fun a h2 c d => KC.in0 a c d)) (fun v h2 T => ?_)
  obtain ⟨s2, hv, C2, F2⟩ := T
  refine mw_aload_n (dT dLw_claims 12 rfl) rfl (by decide) ?_
  refine ld (dT dLw_claims 13 rfl) (dT dLw_claims 14 rfl) (dT dLw_claims 15 rfl) (dT dLw_claims 16 rfl) (dT dLw_claims 17 rfl) rfl rfl hn (by omega) ?_
  refine ld (dT dLw_claims 18 rfl) (dT dLw_claims 19 rfl) (dT dLw_claims 20 rfl) (dT dLw_claims 21 rfl) (dT dLw_claims 22 rfl) rfl rfl hn (by omega) ?_
  refine mw_callVI mv_7_claims ml_L_64 (by decide) (dT dLw_claims 23 rfl) (as := [mI _, mI _]) rfl rfl (r_claims (R.frM F2) (xv_r xs _) (xv_r xs _) (K := KR (P2 (VR σ (xv xs (i + 1)) ∧ 0 ≤ (xv xs (i + 2)) ∧ (xv xs (i + 2)) ≤ 99999) (gS σ (7 * (xv xs (i + 1)) + 1)) (toS (pus σ) (up (gS σ) (7 * (xv xs (i + 1)) + 1) (xv xs (i + 2)))) (-1) σ) h2) (fun a b e h2 c d => KR.in1 ⟨a, b, e⟩ c d) (fun a h2 c d => KR.in0 a c d)) (fun v3 h3 T => ?_)
  obtain ⟨s3, hw, R3, F3⟩ := T
  obtain ⟨rfl, rfl⟩ := hv.fn hw
  refine mw_icmp_same 1611 (dT dLw_claims 24 rfl) (by decide) ?_
  exact LwP.bump hk (J h3 _ (C2.frC F3) R3)
theorem lc_risk {n : Nat} {xs : Nat → Int32} {k : Nat} {i : Int} {h : mH} {σ : Sg} (hk : k < 600) (hn : n ≤ 3072) (hij : 0 ≤ i ∧ i + 5 < n) (C : CG h σ) (R : RG h σ) (J : ∀ h2 s2, CG h2 s2 → RG h2 s2 → At (LwP n xs (k + 1)) ML_law 1611 [mR 70 0, mR 25 0, mR 30 0, mR 46 0, mI i, mU, mU] [] h2) : At (LwP n xs k) ML_law 542 [mR 70 0, mR 25 0, mR 30 0, mR 46 0, mI i, mU, mU] [] h := by
  refine mw_aload_n (dT dLw_risk 0 rfl) rfl (by decide) ?_
  refine ld (dT dLw_risk 1 rfl) (dT dLw_risk 2 rfl) (dT dLw_risk 3 rfl) (dT dLw_risk 4 rfl) (dT dLw_risk 5 rfl) rfl rfl hn (by omega) ?_
  refine ld (dT dLw_risk 6 rfl) (dT dLw_risk 7 rfl) (dT dLw_risk 8 rfl) (dT dLw_risk 9 rfl) (dT dLw_risk 10 rfl) rfl rfl hn (by omega) ?_
  refine ld (dT dLw_risk 11 rfl) (dT dLw_risk 12 rfl) (dT dLw_risk 13 rfl) (dT dLw_risk 14 rfl) (dT dLw_risk 15 rfl) rfl rfl hn (by omega) ?_
  refine ld (dT dLw_risk 16 rfl) (dT dLw_risk 17 rfl) (dT dLw_risk 18 rfl) (dT dLw_risk 19 rfl) (dT dLw_risk 20 rfl) rfl rfl hn (by omega) ?_
  refine mw_callVI mv_6_risk ml_L_65 (by decide) (dT dLw_risk 21 rfl) (as := [mI _, mI _, mI _, mI _]) rfl rfl (m_risk C (xv_r xs _) (xv_r xs _) (xv_r xs _) (xv_r xs _) (K := KC (P3 ((1 ≤ (xv xs (i + 1)) ∧ (xv xs (i + 1)) ≤ 99) ∧ (0 ≤ (xv xs (i + 2)) ∧ (xv xs (i + 2)) ≤ 99999) ∧ (1 ≤ (xv xs (i + 3)) ∧ (xv xs (i + 3)) ≤ 99999) ∧ vld (gP σ) (xv xs (i + 4))) (gS σ 310 < 40) (gS σ 310) (toS (pus σ) (adS (gS σ) (xv xs (i + 1)) (xv xs (i + 2)) (xv xs (i + 3)) (xv xs (i + 4)))) (-2) σ (-1) σ) h) (fun a b e f g h2 c d => KC.t1 ⟨a, b, e, f⟩ g c d) (fun a b e f g h2 c d => KC.t2 ⟨a, b, e, f⟩ (by omega) c d) (fun a h2 c d => KC.t0 a c d)) (fun v h2 T => ?_)
  obtain ⟨s2, hv, C2, F2⟩ := T
  refine mw_aload_n (dT dLw_risk 22 rfl) rfl (by decide) ?_
  refine ld (dT dLw_risk 23 rfl) (dT dLw_risk 24 rfl) (dT dLw_risk 25 rfl) (dT dLw_risk 26 rfl) (dT dLw_risk 27 rfl) rfl rfl hn (by omega) ?_
  refine ld (dT dLw_risk 28 rfl) (dT dLw_risk 29 rfl) (dT dLw_risk 30 rfl) (dT dLw_risk 31 rfl) (dT dLw_risk 32 rfl) rfl rfl hn (by omega) ?_
  refine ld (dT dLw_risk 33 rfl) (dT dLw_risk 34 rfl) (dT dLw_risk 35 rfl) (dT dLw_risk 36 rfl) (dT dLw_risk 37 rfl) rfl rfl hn (by omega) ?_
  refine ld (dT dLw_risk 38 rfl) (dT dLw_risk 39 rfl) (dT dLw_risk 40 rfl) (dT dLw_risk 41 rfl) (dT dLw_risk 42 rfl) rfl rfl hn (by omega) ?_
  refine mw_callVI mv_7_risk ml_L_69 (by decide) (dT dLw_risk 43 rfl) (as := [mI _, mI _, mI _, mI _]) rfl rfl (r_risk (R.frM F2) (xv_r xs _) (xv_r xs _) (xv_r xs _) (xv_r xs _) (K := KR (P3 ((1 ≤ (xv xs (i + 1)) ∧ (xv xs (i + 1)) ≤ 99) ∧ (0 ≤ (xv xs (i + 2)) ∧ (xv xs (i + 2)) ≤ 99999) ∧ (1 ≤ (xv xs (i + 3)) ∧ (xv xs (i + 3)) ≤ 99999) ∧ vld (gP σ) (xv xs (i + 4))) (gS σ 310 < 40) (gS σ 310) (toS (pus σ) (adS (gS σ) (xv xs (i + 1)) (xv xs (i + 2)) (xv xs (i + 3)) (xv xs (i + 4)))) (-2) σ (-1) σ) h2) (fun a b e f g h2 c d => KR.t1 ⟨a, b, e, f⟩ g c d) (fun a b e f g h2 c d => KR.t2 ⟨a, b, e, f⟩ (by omega) c d) (fun a h2 c d => KR.t0 a c d)) (fun v3 h3 T => ?_)
  obtain ⟨s3, hw, R3, F3⟩ := T
  obtain ⟨rfl, rfl⟩ := hv.fn hw
  refine mw_icmp_same 1611 (dT dLw_risk 44 rfl) (by decide) ?_
  exact LwP.bump hk (J h3 _ (C2.frC F3) R3)
theorem lc_drop {n : Nat} {xs : Nat → Int32} {k : Nat} {i : Int} {h : mH} {σ : Sg} (hk : k < 600) (hn : n ≤ 3072) (hij : 0 ≤ i ∧ i + 5 < n) (C : CG h σ) (R : RG h σ) (J : ∀ h2 s2, CG h2 s2 → RG h2 s2 → At (LwP n xs (k + 1)) ML_law 1611 [mR 70 0, mR 25 0, mR 30 0, mR 46 0, mI i, mU, mU] [] h2) : At (LwP n xs k) ML_law 603 [mR 70 0, mR 25 0, mR 30 0, mR 46 0, mI i, mU, mU] [] h := by
  refine mw_aload_n (dT dLw_drop 0 rfl) rfl (by decide) ?_
  refine ld (dT dLw_drop 1 rfl) (dT dLw_drop 2 rfl) (dT dLw_drop 3 rfl) (dT dLw_drop 4 rfl) (dT dLw_drop 5 rfl) rfl rfl hn (by omega) ?_
  refine mw_callVI mv_6_drop ml_L_70 (by decide) (dT dLw_drop 6 rfl) (as := [mI _]) rfl rfl (m_drop C (xv_r xs _) (K := KC (P2 (VR σ (xv xs (i + 1))) (gS σ 310 - 1) (toS (pus σ) (goS (gS σ) (xv xs (i + 1)))) (-1) σ) h) (fun a h2 c d => KC.in1 a c d) (fun a h2 c d => KC.in0 a c d)) (fun v h2 T => ?_)
  obtain ⟨s2, hv, C2, F2⟩ := T
  refine mw_aload_n (dT dLw_drop 7 rfl) rfl (by decide) ?_
  refine ld (dT dLw_drop 8 rfl) (dT dLw_drop 9 rfl) (dT dLw_drop 10 rfl) (dT dLw_drop 11 rfl) (dT dLw_drop 12 rfl) rfl rfl hn (by omega) ?_
  refine mw_callVI mv_7_drop ml_L_73 (by decide) (dT dLw_drop 13 rfl) (as := [mI _]) rfl rfl (r_drop (R.frM F2) (xv_r xs _) (K := KR (P2 (VR σ (xv xs (i + 1))) (gS σ 310 - 1) (toS (pus σ) (goS (gS σ) (xv xs (i + 1)))) (-1) σ) h2) (fun a h2 c d => KR.in1 a c d) (fun a h2 c d => KR.in0 a c d)) (fun v3 h3 T => ?_)
  obtain ⟨s3, hw, R3, F3⟩ := T
  obtain ⟨rfl, rfl⟩ := hv.fn hw
  refine mw_icmp_same 1611 (dT dLw_drop 14 rfl) (by decide) ?_
  exact LwP.bump hk (J h3 _ (C2.frC F3) R3)
theorem lc_join {n : Nat} {xs : Nat → Int32} {k : Nat} {i : Int} {h : mH} {σ : Sg} (hk : k < 600) (hn : n ≤ 3072) (hij : 0 ≤ i ∧ i + 5 < n) (C : CG h σ) (R : RG h σ) (J : ∀ h2 s2, CG h2 s2 → RG h2 s2 → At (LwP n xs (k + 1)) ML_law 1611 [mR 70 0, mR 25 0, mR 30 0, mR 46 0, mI i, mU, mU] [] h2) : At (LwP n xs k) ML_law 628 [mR 70 0, mR 25 0, mR 30 0, mR 46 0, mI i, mU, mU] [] h := by
  refine mw_aload_n (dT dLw_join 0 rfl) rfl (by decide) ?_
  refine ld (dT dLw_join 1 rfl) (dT dLw_join 2 rfl) (dT dLw_join 3 rfl) (dT dLw_join 4 rfl) (dT dLw_join 5 rfl) rfl rfl hn (by omega) ?_
  refine ld (dT dLw_join 6 rfl) (dT dLw_join 7 rfl) (dT dLw_join 8 rfl) (dT dLw_join 9 rfl) (dT dLw_join 10 rfl) rfl rfl hn (by omega) ?_
  refine mw_callVI mv_6_join ml_L_74 (by decide) (dT dLw_join 11 rfl) (as := [mI _, mI _]) rfl rfl (m_join C (xv_r xs _) (xv_r xs _) (K := KC (P2 (VLv σ (xv xs (i + 1)) (xv xs (i + 2)) ∧ (xv xs (i + 2)) + 1 < lv (gP σ) (xv xs (i + 1))) (if jb (gS σ (304 + (xv xs (i + 1)))) (xv xs (i + 2)) then 0 else 1) (toS (pus σ) (joS (gS σ) (xv xs (i + 1)) (xv xs (i + 2)))) (-1) σ) h) (fun a b h2 c d => KC.in1 ⟨a, b⟩ c d) (fun a h2 c d => KC.in0 a c d)) (fun v h2 T => ?_)
  obtain ⟨s2, hv, C2, F2⟩ := T
  refine mw_aload_n (dT dLw_join 12 rfl) rfl (by decide) ?_
  refine ld (dT dLw_join 13 rfl) (dT dLw_join 14 rfl) (dT dLw_join 15 rfl) (dT dLw_join 16 rfl) (dT dLw_join 17 rfl) rfl rfl hn (by omega) ?_
  refine ld (dT dLw_join 18 rfl) (dT dLw_join 19 rfl) (dT dLw_join 20 rfl) (dT dLw_join 21 rfl) (dT dLw_join 22 rfl) rfl rfl hn (by omega) ?_
  refine mw_callVI mv_7_join ml_L_77 (by decide) (dT dLw_join 23 rfl) (as := [mI _, mI _]) rfl rfl (r_join (R.frM F2) (xv_r xs _) (xv_r xs _) (K := KR (P2 (VLv σ (xv xs (i + 1)) (xv xs (i + 2)) ∧ (xv xs (i + 2)) + 1 < lv (gP σ) (xv xs (i + 1))) (if jb (gS σ (304 + (xv xs (i + 1)))) (xv xs (i + 2)) then 0 else 1) (toS (pus σ) (joS (gS σ) (xv xs (i + 1)) (xv xs (i + 2)))) (-1) σ) h2) (fun a b h2 c d => KR.in1 ⟨a, b⟩ c d) (fun a h2 c d => KR.in0 a c d)) (fun v3 h3 T => ?_)
  obtain ⟨s3, hw, R3, F3⟩ := T
  obtain ⟨rfl, rfl⟩ := hv.fn hw
  refine mw_icmp_same 1611 (dT dLw_join 24 rfl) (by decide) ?_
  exact LwP.bump hk (J h3 _ (C2.frC F3) R3)
theorem lc_cap {n : Nat} {xs : Nat → Int32} {k : Nat} {i : Int} {h : mH} {σ : Sg} (hk : k < 600) (hn : n ≤ 3072) (hij : 0 ≤ i ∧ i + 5 < n) (C : CG h σ) (R : RG h σ) (J : ∀ h2 s2, CG h2 s2 → RG h2 s2 → At (LwP n xs (k + 1)) ML_law 1611 [mR 70 0, mR 25 0, mR 30 0, mR 46 0, mI i, mU, mU] [] h2) : At (LwP n xs k) ML_law 665 [mR 70 0, mR 25 0, mR 30 0, mR 46 0, mI i, mU, mU] [] h := by
  refine mw_aload_n (dT dLw_cap 0 rfl) rfl (by decide) ?_
  refine ld (dT dLw_cap 1 rfl) (dT dLw_cap 2 rfl) (dT dLw_cap 3 rfl) (dT dLw_cap 4 rfl) (dT dLw_cap 5 rfl) rfl rfl hn (by omega) ?_
  refine mw_callVI mv_6_cap ml_L_78 (by decide) (dT dLw_cap 6 rfl) (as := [mI _]) rfl rfl (m_cap C (xv_r xs _) (K := KC (P2 (0 ≤ (xv xs (i + 1)) ∧ (xv xs (i + 1)) ≤ 999) (gS σ 309) (toS (pus σ) (up (gS σ) 309 (xv xs (i + 1)))) (-1) σ) h) (fun a b h2 c d => KC.in1 ⟨a, b⟩ c d) (fun a h2 c d => KC.in0 a c d)) (fun v h2 T => ?_)
  obtain ⟨s2, hv, C2, F2⟩ := T
  refine mw_aload_n (dT dLw_cap 7 rfl) rfl (by decide) ?_
  refine ld (dT dLw_cap 8 rfl) (dT dLw_cap 9 rfl) (dT dLw_cap 10 rfl) (dT dLw_cap 11 rfl) (dT dLw_cap 12 rfl) rfl rfl hn (by omega) ?_
  refine mw_callVI mv_7_cap ml_L_81 (by decide) (dT dLw_cap 13 rfl) (as := [mI _]) rfl rfl (r_cap (R.frM F2) (xv_r xs _) (K := KR (P2 (0 ≤ (xv xs (i + 1)) ∧ (xv xs (i + 1)) ≤ 999) (gS σ 309) (toS (pus σ) (up (gS σ) 309 (xv xs (i + 1)))) (-1) σ) h2) (fun a b h2 c d => KR.in1 ⟨a, b⟩ c d) (fun a h2 c d => KR.in0 a c d)) (fun v3 h3 T => ?_)
  obtain ⟨s3, hw, R3, F3⟩ := T
  obtain ⟨rfl, rfl⟩ := hv.fn hw
  refine mw_icmp_same 1611 (dT dLw_cap 14 rfl) (by decide) ?_
  exact LwP.bump hk (J h3 _ (C2.frC F3) R3)
theorem lc_trust {n : Nat} {xs : Nat → Int32} {k : Nat} {i : Int} {h : mH} {σ : Sg} (hk : k < 600) (hn : n ≤ 3072) (hij : 0 ≤ i ∧ i + 5 < n) (C : CG h σ) (R : RG h σ) (J : ∀ h2 s2, CG h2 s2 → RG h2 s2 → At (LwP n xs (k + 1)) ML_law 1611 [mR 70 0, mR 25 0, mR 30 0, mR 46 0, mI i, mU, mU] [] h2) : At (LwP n xs k) ML_law 690 [mR 70 0, mR 25 0, mR 30 0, mR 46 0, mI i, mU, mU] [] h := by
  refine mw_aload_n (dT dLw_trust 0 rfl) rfl (by decide) ?_
  refine ld (dT dLw_trust 1 rfl) (dT dLw_trust 2 rfl) (dT dLw_trust 3 rfl) (dT dLw_trust 4 rfl) (dT dLw_trust 5 rfl) rfl rfl hn (by omega) ?_
  refine mw_callVI mv_6_trust ml_L_82 (by decide) (dT dLw_trust 6 rfl) (as := [mI _]) rfl rfl (m_trust C (xv_r xs _) (K := KC (P2 (0 ≤ (xv xs (i + 1)) ∧ (xv xs (i + 1)) ≤ 999) (gS σ 311) (toS (pus σ) (up (gS σ) 311 (xv xs (i + 1)))) (-1) σ) h) (fun a b h2 c d => KC.in1 ⟨a, b⟩ c d) (fun a h2 c d => KC.in0 a c d)) (fun v h2 T => ?_)
  obtain ⟨s2, hv, C2, F2⟩ := T
  refine mw_aload_n (dT dLw_trust 7 rfl) rfl (by decide) ?_
  refine ld (dT dLw_trust 8 rfl) (dT dLw_trust 9 rfl) (dT dLw_trust 10 rfl) (dT dLw_trust 11 rfl) (dT dLw_trust 12 rfl) rfl rfl hn (by omega) ?_
  refine mw_callVI mv_7_trust ml_L_85 (by decide) (dT dLw_trust 13 rfl) (as := [mI _]) rfl rfl (r_trust (R.frM F2) (xv_r xs _) (K := KR (P2 (0 ≤ (xv xs (i + 1)) ∧ (xv xs (i + 1)) ≤ 999) (gS σ 311) (toS (pus σ) (up (gS σ) 311 (xv xs (i + 1)))) (-1) σ) h2) (fun a b h2 c d => KR.in1 ⟨a, b⟩ c d) (fun a h2 c d => KR.in0 a c d)) (fun v3 h3 T => ?_)
  obtain ⟨s3, hw, R3, F3⟩ := T
  obtain ⟨rfl, rfl⟩ := hv.fn hw
  refine mw_icmp_same 1611 (dT dLw_trust 14 rfl) (by decide) ?_
  exact LwP.bump hk (J h3 _ (C2.frC F3) R3)
theorem lc_fleet {n : Nat} {xs : Nat → Int32} {k : Nat} {i : Int} {h : mH} {σ : Sg} (hk : k < 600) (hn : n ≤ 3072) (hij : 0 ≤ i ∧ i + 5 < n) (C : CG h σ) (R : RG h σ) (J : ∀ h2 s2, CG h2 s2 → RG h2 s2 → At (LwP n xs (k + 1)) ML_law 1611 [mR 70 0, mR 25 0, mR 30 0, mR 46 0, mI i, mU, mU] [] h2) : At (LwP n xs k) ML_law 715 [mR 70 0, mR 25 0, mR 30 0, mR 46 0, mI i, mU, mU] [] h := by
  refine mw_aload_n (dT dLw_fleet 0 rfl) rfl (by decide) ?_
  refine ld (dT dLw_fleet 1 rfl) (dT dLw_fleet 2 rfl) (dT dLw_fleet 3 rfl) (dT dLw_fleet 4 rfl) (dT dLw_fleet 5 rfl) rfl rfl hn (by omega) ?_
  refine ld (dT dLw_fleet 6 rfl) (dT dLw_fleet 7 rfl) (dT dLw_fleet 8 rfl) (dT dLw_fleet 9 rfl) (dT dLw_fleet 10 rfl) rfl rfl hn (by omega) ?_
  refine mw_callVI mv_6_fleet ml_L_86 (by decide) (dT dLw_fleet 11 rfl) (as := [mI _, mI _]) rfl rfl (m_fleet C (xv_r xs _) (xv_r xs _) (K := KC (P2 ((1 ≤ (xv xs (i + 1)) ∧ (xv xs (i + 1)) ≤ 99) ∧ 0 ≤ (xv xs (i + 2)) ∧ (xv xs (i + 2)) ≤ 500) (sm (fun r => if gS σ (7 * r + 0) < (xv xs (i + 1)) then 0 else 1) (gS σ 310)) (toS (pus σ) (flS (gS σ) (xv xs (i + 1)) (xv xs (i + 2)))) (-1) σ) h) (fun a b h2 c d => KC.in1 ⟨a, b⟩ c d) (fun a h2 c d => KC.in0 a c d)) (fun v h2 T => ?_)
  obtain ⟨s2, hv, C2, F2⟩ := T
  refine mw_aload_n (dT dLw_fleet 12 rfl) rfl (by decide) ?_
  refine ld (dT dLw_fleet 13 rfl) (dT dLw_fleet 14 rfl) (dT dLw_fleet 15 rfl) (dT dLw_fleet 16 rfl) (dT dLw_fleet 17 rfl) rfl rfl hn (by omega) ?_
  refine ld (dT dLw_fleet 18 rfl) (dT dLw_fleet 19 rfl) (dT dLw_fleet 20 rfl) (dT dLw_fleet 21 rfl) (dT dLw_fleet 22 rfl) rfl rfl hn (by omega) ?_
  refine mw_callVI mv_7_fleet ml_L_89 (by decide) (dT dLw_fleet 23 rfl) (as := [mI _, mI _]) rfl rfl (r_fleet (R.frM F2) (xv_r xs _) (xv_r xs _) (K := KR (P2 ((1 ≤ (xv xs (i + 1)) ∧ (xv xs (i + 1)) ≤ 99) ∧ 0 ≤ (xv xs (i + 2)) ∧ (xv xs (i + 2)) ≤ 500) (sm (fun r => if gS σ (7 * r + 0) < (xv xs (i + 1)) then 0 else 1) (gS σ 310)) (toS (pus σ) (flS (gS σ) (xv xs (i + 1)) (xv xs (i + 2)))) (-1) σ) h2) (fun a b h2 c d => KR.in1 ⟨a, b⟩ c d) (fun a h2 c d => KR.in0 a c d)) (fun v3 h3 T => ?_)
  obtain ⟨s3, hw, R3, F3⟩ := T
  obtain ⟨rfl, rfl⟩ := hv.fn hw
  refine mw_icmp_same 1611 (dT dLw_fleet 24 rfl) (by decide) ?_
  exact LwP.bump hk (J h3 _ (C2.frC F3) R3)
theorem lc_margin {n : Nat} {xs : Nat → Int32} {k : Nat} {i : Int} {h : mH} {σ : Sg} (hk : k < 600) (hn : n ≤ 3072) (hij : 0 ≤ i ∧ i + 5 < n) (C : CG h σ) (R : RG h σ) (J : ∀ h2 s2, CG h2 s2 → RG h2 s2 → At (LwP n xs (k + 1)) ML_law 1611 [mR 70 0, mR 25 0, mR 30 0, mR 46 0, mI i, mU, mU] [] h2) : At (LwP n xs k) ML_law 820 [mR 70 0, mR 25 0, mR 30 0, mR 46 0, mI i, mU, mU] [] h := by
  refine mw_aload_n (dT dLw_margin 0 rfl) rfl (by decide) ?_
  refine ld (dT dLw_margin 1 rfl) (dT dLw_margin 2 rfl) (dT dLw_margin 3 rfl) (dT dLw_margin 4 rfl) (dT dLw_margin 5 rfl) rfl rfl hn (by omega) ?_
  refine ld (dT dLw_margin 6 rfl) (dT dLw_margin 7 rfl) (dT dLw_margin 8 rfl) (dT dLw_margin 9 rfl) (dT dLw_margin 10 rfl) rfl rfl hn (by omega) ?_
  refine ld (dT dLw_margin 11 rfl) (dT dLw_margin 12 rfl) (dT dLw_margin 13 rfl) (dT dLw_margin 14 rfl) (dT dLw_margin 15 rfl) rfl rfl hn (by omega) ?_
  refine mw_callVJ mv_6_margin ml_L_99 (by decide) (dT dLw_margin 16 rfl) (as := [mI _, mI _, mI _]) rfl rfl (m_margin C (xv_r xs _) (xv_r xs _) (xv_r xs _) (K := KC (P1 (q_margin σ (xv xs (i + 1)) (xv xs (i + 2)) (xv xs (i + 3))) σ) h) (fun h2 c d => KC.mk1 c d)) (fun v h2 T => ?_)
  obtain ⟨s2, hv, C2, F2⟩ := T
  refine mw_aload_n (dT dLw_margin 17 rfl) rfl (by decide) ?_
  refine ld (dT dLw_margin 18 rfl) (dT dLw_margin 19 rfl) (dT dLw_margin 20 rfl) (dT dLw_margin 21 rfl) (dT dLw_margin 22 rfl) rfl rfl hn (by omega) ?_
  refine ld (dT dLw_margin 23 rfl) (dT dLw_margin 24 rfl) (dT dLw_margin 25 rfl) (dT dLw_margin 26 rfl) (dT dLw_margin 27 rfl) rfl rfl hn (by omega) ?_
  refine ld (dT dLw_margin 28 rfl) (dT dLw_margin 29 rfl) (dT dLw_margin 30 rfl) (dT dLw_margin 31 rfl) (dT dLw_margin 32 rfl) rfl rfl hn (by omega) ?_
  refine mw_callVJ mv_7_margin ml_L_103 (by decide) (dT dLw_margin 33 rfl) (as := [mI _, mI _, mI _]) rfl rfl (r_margin (R.frM F2) (xv_r xs _) (xv_r xs _) (xv_r xs _) (K := KR (P1 (q_margin σ (xv xs (i + 1)) (xv xs (i + 2)) (xv xs (i + 3))) σ) h2) (fun h2 c d => KR.mk1 c d)) (fun v3 h3 T => ?_)
  obtain ⟨s3, hw, R3, F3⟩ := T
  obtain ⟨rfl, rfl⟩ := hv.fn hw
  refine mw_lif_same 1611 (dT dLw_margin 34 rfl) (dT dLw_margin 35 rfl) (by decide) ?_
  exact LwP.bump hk (J h3 _ (C2.frC F3) R3)
theorem lc_of {n : Nat} {xs : Nat → Int32} {k : Nat} {i : Int} {h : mH} {σ : Sg} (hk : k < 600) (hn : n ≤ 3072) (hij : 0 ≤ i ∧ i + 5 < n) (C : CG h σ) (R : RG h σ) (J : ∀ h2 s2, CG h2 s2 → RG h2 s2 → At (LwP n xs (k + 1)) ML_law 1611 [mR 70 0, mR 25 0, mR 30 0, mR 46 0, mI i, mU, mU] [] h2) : At (LwP n xs k) ML_law 870 [mR 70 0, mR 25 0, mR 30 0, mR 46 0, mI i, mU, mU] [] h := by
  refine mw_aload_n (dT dLw_of 0 rfl) rfl (by decide) ?_
  refine ld (dT dLw_of 1 rfl) (dT dLw_of 2 rfl) (dT dLw_of 3 rfl) (dT dLw_of 4 rfl) (dT dLw_of 5 rfl) rfl rfl hn (by omega) ?_
  refine ld (dT dLw_of 6 rfl) (dT dLw_of 7 rfl) (dT dLw_of 8 rfl) (dT dLw_of 9 rfl) (dT dLw_of 10 rfl) rfl rfl hn (by omega) ?_
  refine mw_callVJ mv_6_of ml_L_104 (by decide) (dT dLw_of 11 rfl) (as := [mI _, mI _]) rfl rfl (m_of C (xv_r xs _) (xv_r xs _) (K := KC (P1 (q_of σ (xv xs (i + 1)) (xv xs (i + 2))) σ) h) (fun h2 c d => KC.mk1 c d)) (fun v h2 T => ?_)
  obtain ⟨s2, hv, C2, F2⟩ := T
  refine mw_aload_n (dT dLw_of 12 rfl) rfl (by decide) ?_
  refine ld (dT dLw_of 13 rfl) (dT dLw_of 14 rfl) (dT dLw_of 15 rfl) (dT dLw_of 16 rfl) (dT dLw_of 17 rfl) rfl rfl hn (by omega) ?_
  refine ld (dT dLw_of 18 rfl) (dT dLw_of 19 rfl) (dT dLw_of 20 rfl) (dT dLw_of 21 rfl) (dT dLw_of 22 rfl) rfl rfl hn (by omega) ?_
  refine mw_callVJ mv_7_of ml_L_108 (by decide) (dT dLw_of 23 rfl) (as := [mI _, mI _]) rfl rfl (r_of (R.frM F2) (xv_r xs _) (xv_r xs _) (K := KR (P1 (q_of σ (xv xs (i + 1)) (xv xs (i + 2))) σ) h2) (fun h2 c d => KR.mk1 c d)) (fun v3 h3 T => ?_)
  obtain ⟨s3, hw, R3, F3⟩ := T
  obtain ⟨rfl, rfl⟩ := hv.fn hw
  refine mw_lif_same 1611 (dT dLw_of 24 rfl) (dT dLw_of 25 rfl) (by decide) ?_
  exact LwP.bump hk (J h3 _ (C2.frC F3) R3)
theorem lc_all {n : Nat} {xs : Nat → Int32} {k : Nat} {i : Int} {h : mH} {σ : Sg} (hk : k < 600) (hn : n ≤ 3072) (hij : 0 ≤ i ∧ i + 5 < n) (C : CG h σ) (R : RG h σ) (J : ∀ h2 s2, CG h2 s2 → RG h2 s2 → At (LwP n xs (k + 1)) ML_law 1611 [mR 70 0, mR 25 0, mR 30 0, mR 46 0, mI i, mU, mU] [] h2) : At (LwP n xs k) ML_law 908 [mR 70 0, mR 25 0, mR 30 0, mR 46 0, mI i, mU, mU] [] h := by
  refine mw_aload_n (dT dLw_all 0 rfl) rfl (by decide) ?_
  refine ld (dT dLw_all 1 rfl) (dT dLw_all 2 rfl) (dT dLw_all 3 rfl) (dT dLw_all 4 rfl) (dT dLw_all 5 rfl) rfl rfl hn (by omega) ?_
  refine mw_callVJ mv_6_all ml_L_109 (by decide) (dT dLw_all 6 rfl) (as := [mI _]) rfl rfl (m_all C (xv_r xs _) (K := KC (P1 (q_all σ (xv xs (i + 1))) σ) h) (fun h2 c d => KC.mk1 c d)) (fun v h2 T => ?_)
  obtain ⟨s2, hv, C2, F2⟩ := T
  refine mw_aload_n (dT dLw_all 7 rfl) rfl (by decide) ?_
  refine ld (dT dLw_all 8 rfl) (dT dLw_all 9 rfl) (dT dLw_all 10 rfl) (dT dLw_all 11 rfl) (dT dLw_all 12 rfl) rfl rfl hn (by omega) ?_
  refine mw_callVJ mv_7_all ml_L_113 (by decide) (dT dLw_all 13 rfl) (as := [mI _]) rfl rfl (r_all (R.frM F2) (xv_r xs _) (K := KR (P1 (q_all σ (xv xs (i + 1))) σ) h2) (fun h2 c d => KR.mk1 c d)) (fun v3 h3 T => ?_)
  obtain ⟨s3, hw, R3, F3⟩ := T
  obtain ⟨rfl, rfl⟩ := hv.fn hw
  refine mw_lif_same 1611 (dT dLw_all 14 rfl) (dT dLw_all 15 rfl) (by decide) ?_
  exact LwP.bump hk (J h3 _ (C2.frC F3) R3)
theorem lc_fitted {n : Nat} {xs : Nat → Int32} {k : Nat} {i : Int} {h : mH} {σ : Sg} (hk : k < 600) (hn : n ≤ 3072) (hij : 0 ≤ i ∧ i + 5 < n) (C : CG h σ) (R : RG h σ) (J : ∀ h2 s2, CG h2 s2 → RG h2 s2 → At (LwP n xs (k + 1)) ML_law 1611 [mR 70 0, mR 25 0, mR 30 0, mR 46 0, mI i, mU, mU] [] h2) : At (LwP n xs k) ML_law 934 [mR 70 0, mR 25 0, mR 30 0, mR 46 0, mI i, mU, mU] [] h := by
  refine mw_aload_n (dT dLw_fitted 0 rfl) rfl (by decide) ?_
  refine ld (dT dLw_fitted 1 rfl) (dT dLw_fitted 2 rfl) (dT dLw_fitted 3 rfl) (dT dLw_fitted 4 rfl) (dT dLw_fitted 5 rfl) rfl rfl hn (by omega) ?_
  refine mw_callVI mv_6_fitted ml_L_114 (by decide) (dT dLw_fitted 6 rfl) (as := [mI _]) rfl rfl (m_fitted C (xv_r xs _) (K := KC (P1 (q_fitted σ (xv xs (i + 1))) σ) h) (fun h2 c d => KC.mk1 c d)) (fun v h2 T => ?_)
  obtain ⟨s2, hv, C2, F2⟩ := T
  refine mw_aload_n (dT dLw_fitted 7 rfl) rfl (by decide) ?_
  refine ld (dT dLw_fitted 8 rfl) (dT dLw_fitted 9 rfl) (dT dLw_fitted 10 rfl) (dT dLw_fitted 11 rfl) (dT dLw_fitted 12 rfl) rfl rfl hn (by omega) ?_
  refine mw_callVI mv_7_fitted ml_L_117 (by decide) (dT dLw_fitted 13 rfl) (as := [mI _]) rfl rfl (r_fitted (R.frM F2) (xv_r xs _) (K := KR (P1 (q_fitted σ (xv xs (i + 1))) σ) h2) (fun h2 c d => KR.mk1 c d)) (fun v3 h3 T => ?_)
  obtain ⟨s3, hw, R3, F3⟩ := T
  obtain ⟨rfl, rfl⟩ := hv.fn hw
  refine mw_icmp_same 1611 (dT dLw_fitted 14 rfl) (by decide) ?_
  exact LwP.bump hk (J h3 _ (C2.frC F3) R3)
theorem lc_unbalanced {n : Nat} {xs : Nat → Int32} {k : Nat} {i : Int} {h : mH} {σ : Sg} (hk : k < 600) (hn : n ≤ 3072) (hij : 0 ≤ i ∧ i + 5 < n) (C : CG h σ) (R : RG h σ) (J : ∀ h2 s2, CG h2 s2 → RG h2 s2 → At (LwP n xs (k + 1)) ML_law 1611 [mR 70 0, mR 25 0, mR 30 0, mR 46 0, mI i, mU, mU] [] h2) : At (LwP n xs k) ML_law 959 [mR 70 0, mR 25 0, mR 30 0, mR 46 0, mI i, mU, mU] [] h := by
  refine mw_aload_n (dT dLw_unbalanced 0 rfl) rfl (by decide) ?_
  refine mw_callVI mv_6_unbalanced ml_L_118 (by decide) (dT dLw_unbalanced 1 rfl) (as := []) rfl rfl (m_unbalanced C (K := KC (P1 (q_unb σ) σ) h) (fun h2 c d => KC.mk1 c d)) (fun v h2 T => ?_)
  obtain ⟨s2, hv, C2, F2⟩ := T
  refine mw_aload_n (dT dLw_unbalanced 2 rfl) rfl (by decide) ?_
  refine mw_callVI mv_7_unbalanced ml_L_121 (by decide) (dT dLw_unbalanced 3 rfl) (as := []) rfl rfl (r_unbalanced (R.frM F2) (K := KR (P1 (q_unb σ) σ) h2) (fun h2 c d => KR.mk1 c d)) (fun v3 h3 T => ?_)
  obtain ⟨s3, hw, R3, F3⟩ := T
  obtain ⟨rfl, rfl⟩ := hv.fn hw
  refine mw_icmp_same 1611 (dT dLw_unbalanced 4 rfl) (by decide) ?_
  exact LwP.bump hk (J h3 _ (C2.frC F3) R3)
theorem lc_offBalance {n : Nat} {xs : Nat → Int32} {k : Nat} {i : Int} {h : mH} {σ : Sg} (hk : k < 600) (hn : n ≤ 3072) (hij : 0 ≤ i ∧ i + 5 < n) (C : CG h σ) (R : RG h σ) (J : ∀ h2 s2, CG h2 s2 → RG h2 s2 → At (LwP n xs (k + 1)) ML_law 1611 [mR 70 0, mR 25 0, mR 30 0, mR 46 0, mI i, mU, mU] [] h2) : At (LwP n xs k) ML_law 972 [mR 70 0, mR 25 0, mR 30 0, mR 46 0, mI i, mU, mU] [] h := by
  refine mw_aload_n (dT dLw_offBalance 0 rfl) rfl (by decide) ?_
  refine mw_callVI mv_6_offBalance ml_L_122 (by decide) (dT dLw_offBalance 1 rfl) (as := []) rfl rfl (m_offBalance C (K := KC (P1 (q_off σ) σ) h) (fun h2 c d => KC.mk1 c d)) (fun v h2 T => ?_)
  obtain ⟨s2, hv, C2, F2⟩ := T
  refine mw_aload_n (dT dLw_offBalance 2 rfl) rfl (by decide) ?_
  refine mw_callVI mv_7_offBalance ml_L_125 (by decide) (dT dLw_offBalance 3 rfl) (as := []) rfl rfl (r_offBalance (R.frM F2) (K := KR (P1 (q_off σ) σ) h2) (fun h2 c d => KR.mk1 c d)) (fun v3 h3 T => ?_)
  obtain ⟨s3, hw, R3, F3⟩ := T
  obtain ⟨rfl, rfl⟩ := hv.fn hw
  refine mw_icmp_same 1611 (dT dLw_offBalance 4 rfl) (by decide) ?_
  exact LwP.bump hk (J h3 _ (C2.frC F3) R3)
theorem lc_changes {n : Nat} {xs : Nat → Int32} {k : Nat} {i : Int} {h : mH} {σ : Sg} (hk : k < 600) (hn : n ≤ 3072) (hij : 0 ≤ i ∧ i + 5 < n) (C : CG h σ) (R : RG h σ) (J : ∀ h2 s2, CG h2 s2 → RG h2 s2 → At (LwP n xs (k + 1)) ML_law 1611 [mR 70 0, mR 25 0, mR 30 0, mR 46 0, mI i, mU, mU] [] h2) : At (LwP n xs k) ML_law 985 [mR 70 0, mR 25 0, mR 30 0, mR 46 0, mI i, mU, mU] [] h := by
  refine mw_aload_n (dT dLw_changes 0 rfl) rfl (by decide) ?_
  refine ld (dT dLw_changes 1 rfl) (dT dLw_changes 2 rfl) (dT dLw_changes 3 rfl) (dT dLw_changes 4 rfl) (dT dLw_changes 5 rfl) rfl rfl hn (by omega) ?_
  refine mw_callVI mv_6_changes ml_L_126 (by decide) (dT dLw_changes 6 rfl) (as := [mI _]) rfl rfl (m_changes C (xv_r xs _) (K := KC (P1 (q_changes σ (xv xs (i + 1))) σ) h) (fun h2 c d => KC.mk1 c d)) (fun v h2 T => ?_)
  obtain ⟨s2, hv, C2, F2⟩ := T
  refine mw_aload_n (dT dLw_changes 7 rfl) rfl (by decide) ?_
  refine ld (dT dLw_changes 8 rfl) (dT dLw_changes 9 rfl) (dT dLw_changes 10 rfl) (dT dLw_changes 11 rfl) (dT dLw_changes 12 rfl) rfl rfl hn (by omega) ?_
  refine mw_callVI mv_7_changes ml_L_129 (by decide) (dT dLw_changes 13 rfl) (as := [mI _]) rfl rfl (r_changes (R.frM F2) (xv_r xs _) (K := KR (P1 (q_changes σ (xv xs (i + 1))) σ) h2) (fun h2 c d => KR.mk1 c d)) (fun v3 h3 T => ?_)
  obtain ⟨s3, hw, R3, F3⟩ := T
  obtain ⟨rfl, rfl⟩ := hv.fn hw
  refine mw_icmp_same 1611 (dT dLw_changes 14 rfl) (by decide) ?_
  exact LwP.bump hk (J h3 _ (C2.frC F3) R3)
theorem lc_share {n : Nat} {xs : Nat → Int32} {k : Nat} {i : Int} {h : mH} {σ : Sg} (hk : k < 600) (hn : n ≤ 3072) (hij : 0 ≤ i ∧ i + 5 < n) (C : CG h σ) (R : RG h σ) (J : ∀ h2 s2, CG h2 s2 → RG h2 s2 → At (LwP n xs (k + 1)) ML_law 1611 [mR 70 0, mR 25 0, mR 30 0, mR 46 0, mI i, mU, mU] [] h2) : At (LwP n xs k) ML_law 1010 [mR 70 0, mR 25 0, mR 30 0, mR 46 0, mI i, mU, mU] [] h := by
  refine mw_aload_n (dT dLw_share 0 rfl) rfl (by decide) ?_
  refine ld (dT dLw_share 1 rfl) (dT dLw_share 2 rfl) (dT dLw_share 3 rfl) (dT dLw_share 4 rfl) (dT dLw_share 5 rfl) rfl rfl hn (by omega) ?_
  refine ld (dT dLw_share 6 rfl) (dT dLw_share 7 rfl) (dT dLw_share 8 rfl) (dT dLw_share 9 rfl) (dT dLw_share 10 rfl) rfl rfl hn (by omega) ?_
  refine mw_callVI mv_6_share ml_L_130 (by decide) (dT dLw_share 11 rfl) (as := [mI _, mI _]) rfl rfl (m_share C (xv_r xs _) (xv_r xs _) (K := KC (P1 (q_share σ (xv xs (i + 1)) (xv xs (i + 2))) σ) h) (fun h2 c d => KC.mk1 c d)) (fun v h2 T => ?_)
  obtain ⟨s2, hv, C2, F2⟩ := T
  refine mw_aload_n (dT dLw_share 12 rfl) rfl (by decide) ?_
  refine ld (dT dLw_share 13 rfl) (dT dLw_share 14 rfl) (dT dLw_share 15 rfl) (dT dLw_share 16 rfl) (dT dLw_share 17 rfl) rfl rfl hn (by omega) ?_
  refine ld (dT dLw_share 18 rfl) (dT dLw_share 19 rfl) (dT dLw_share 20 rfl) (dT dLw_share 21 rfl) (dT dLw_share 22 rfl) rfl rfl hn (by omega) ?_
  refine mw_callVI mv_7_share ml_L_133 (by decide) (dT dLw_share 23 rfl) (as := [mI _, mI _]) rfl rfl (r_share (R.frM F2) (xv_r xs _) (xv_r xs _) (K := KR (P1 (q_share σ (xv xs (i + 1)) (xv xs (i + 2))) σ) h2) (fun h2 c d => KR.mk1 c d)) (fun v3 h3 T => ?_)
  obtain ⟨s3, hw, R3, F3⟩ := T
  obtain ⟨rfl, rfl⟩ := hv.fn hw
  refine mw_icmp_same 1611 (dT dLw_share 24 rfl) (by decide) ?_
  exact LwP.bump hk (J h3 _ (C2.frC F3) R3)
theorem lc_atEnd {n : Nat} {xs : Nat → Int32} {k : Nat} {i : Int} {h : mH} {σ : Sg} (hk : k < 600) (hn : n ≤ 3072) (hij : 0 ≤ i ∧ i + 5 < n) (C : CG h σ) (R : RG h σ) (J : ∀ h2 s2, CG h2 s2 → RG h2 s2 → At (LwP n xs (k + 1)) ML_law 1611 [mR 70 0, mR 25 0, mR 30 0, mR 46 0, mI i, mU, mU] [] h2) : At (LwP n xs k) ML_law 1047 [mR 70 0, mR 25 0, mR 30 0, mR 46 0, mI i, mU, mU] [] h := by
  refine mw_aload_n (dT dLw_atEnd 0 rfl) rfl (by decide) ?_
  refine ld (dT dLw_atEnd 1 rfl) (dT dLw_atEnd 2 rfl) (dT dLw_atEnd 3 rfl) (dT dLw_atEnd 4 rfl) (dT dLw_atEnd 5 rfl) rfl rfl hn (by omega) ?_
  refine ld (dT dLw_atEnd 6 rfl) (dT dLw_atEnd 7 rfl) (dT dLw_atEnd 8 rfl) (dT dLw_atEnd 9 rfl) (dT dLw_atEnd 10 rfl) rfl rfl hn (by omega) ?_
  refine mw_callVI mv_6_atEnd ml_L_134 (by decide) (dT dLw_atEnd 11 rfl) (as := [mI _, mI _]) rfl rfl (m_atEnd C (xv_r xs _) (xv_r xs _) (K := KC (P1 (q_atEnd σ (xv xs (i + 1)) (xv xs (i + 2))) σ) h) (fun h2 c d => KC.mk1 c d)) (fun v h2 T => ?_)
  obtain ⟨s2, hv, C2, F2⟩ := T
  refine mw_aload_n (dT dLw_atEnd 12 rfl) rfl (by decide) ?_
  refine ld (dT dLw_atEnd 13 rfl) (dT dLw_atEnd 14 rfl) (dT dLw_atEnd 15 rfl) (dT dLw_atEnd 16 rfl) (dT dLw_atEnd 17 rfl) rfl rfl hn (by omega) ?_
  refine ld (dT dLw_atEnd 18 rfl) (dT dLw_atEnd 19 rfl) (dT dLw_atEnd 20 rfl) (dT dLw_atEnd 21 rfl) (dT dLw_atEnd 22 rfl) rfl rfl hn (by omega) ?_
  refine mw_callVI mv_7_atEnd ml_L_137 (by decide) (dT dLw_atEnd 23 rfl) (as := [mI _, mI _]) rfl rfl (r_atEnd (R.frM F2) (xv_r xs _) (xv_r xs _) (K := KR (P1 (q_atEnd σ (xv xs (i + 1)) (xv xs (i + 2))) σ) h2) (fun h2 c d => KR.mk1 c d)) (fun v3 h3 T => ?_)
  obtain ⟨s3, hw, R3, F3⟩ := T
  obtain ⟨rfl, rfl⟩ := hv.fn hw
  refine mw_icmp_same 1611 (dT dLw_atEnd 24 rfl) (by decide) ?_
  exact LwP.bump hk (J h3 _ (C2.frC F3) R3)
theorem lc_mostOff {n : Nat} {xs : Nat → Int32} {k : Nat} {i : Int} {h : mH} {σ : Sg} (hk : k < 600) (hn : n ≤ 3072) (hij : 0 ≤ i ∧ i + 5 < n) (C : CG h σ) (R : RG h σ) (J : ∀ h2 s2, CG h2 s2 → RG h2 s2 → At (LwP n xs (k + 1)) ML_law 1611 [mR 70 0, mR 25 0, mR 30 0, mR 46 0, mI i, mU, mU] [] h2) : At (LwP n xs k) ML_law 1084 [mR 70 0, mR 25 0, mR 30 0, mR 46 0, mI i, mU, mU] [] h := by
  refine mw_aload_n (dT dLw_mostOff 0 rfl) rfl (by decide) ?_
  refine mw_callVI mv_6_mostOff ml_L_138 (by decide) (dT dLw_mostOff 1 rfl) (as := []) rfl rfl (m_mostOff C (K := KC (P1 (q_mostOff σ) σ) h) (fun h2 c d => KC.mk1 c d)) (fun v h2 T => ?_)
  obtain ⟨s2, hv, C2, F2⟩ := T
  refine mw_aload_n (dT dLw_mostOff 2 rfl) rfl (by decide) ?_
  refine mw_callVI mv_7_mostOff ml_L_141 (by decide) (dT dLw_mostOff 3 rfl) (as := []) rfl rfl (r_mostOff (R.frM F2) (K := KR (P1 (q_mostOff σ) σ) h2) (fun h2 c d => KR.mk1 c d)) (fun v3 h3 T => ?_)
  obtain ⟨s3, hw, R3, F3⟩ := T
  obtain ⟨rfl, rfl⟩ := hv.fn hw
  refine mw_icmp_same 1611 (dT dLw_mostOff 4 rfl) (by decide) ?_
  exact LwP.bump hk (J h3 _ (C2.frC F3) R3)
theorem lc_step {n : Nat} {xs : Nat → Int32} {k : Nat} {i : Int} {h : mH} {σ : Sg} (hk : k < 600) (hn : n ≤ 3072) (hij : 0 ≤ i ∧ i + 5 < n) (C : CG h σ) (R : RG h σ) (J : ∀ h2 s2, CG h2 s2 → RG h2 s2 → At (LwP n xs (k + 1)) ML_law 1611 [mR 70 0, mR 25 0, mR 30 0, mR 46 0, mI i, mU, mU] [] h2) : At (LwP n xs k) ML_law 1097 [mR 70 0, mR 25 0, mR 30 0, mR 46 0, mI i, mU, mU] [] h := by
  refine mw_aload_n (dT dLw_step 0 rfl) rfl (by decide) ?_
  refine ld (dT dLw_step 1 rfl) (dT dLw_step 2 rfl) (dT dLw_step 3 rfl) (dT dLw_step 4 rfl) (dT dLw_step 5 rfl) rfl rfl hn (by omega) ?_
  refine ld (dT dLw_step 6 rfl) (dT dLw_step 7 rfl) (dT dLw_step 8 rfl) (dT dLw_step 9 rfl) (dT dLw_step 10 rfl) rfl rfl hn (by omega) ?_
  refine mw_callVJ mv_6_step ml_L_142 (by decide) (dT dLw_step 11 rfl) (as := [mI _, mI _]) rfl rfl (m_step C (xv_r xs _) (xv_r xs _) (K := KC (P1 (q_step σ (xv xs (i + 1)) (xv xs (i + 2))) σ) h) (fun h2 c d => KC.mk1 c d)) (fun v h2 T => ?_)
  obtain ⟨s2, hv, C2, F2⟩ := T
  refine mw_aload_n (dT dLw_step 12 rfl) rfl (by decide) ?_
  refine ld (dT dLw_step 13 rfl) (dT dLw_step 14 rfl) (dT dLw_step 15 rfl) (dT dLw_step 16 rfl) (dT dLw_step 17 rfl) rfl rfl hn (by omega) ?_
  refine ld (dT dLw_step 18 rfl) (dT dLw_step 19 rfl) (dT dLw_step 20 rfl) (dT dLw_step 21 rfl) (dT dLw_step 22 rfl) rfl rfl hn (by omega) ?_
  refine mw_callVJ mv_7_step ml_L_145 (by decide) (dT dLw_step 23 rfl) (as := [mI _, mI _]) rfl rfl (r_step (R.frM F2) (xv_r xs _) (xv_r xs _) (K := KR (P1 (q_step σ (xv xs (i + 1)) (xv xs (i + 2))) σ) h2) (fun h2 c d => KR.mk1 c d)) (fun v3 h3 T => ?_)
  obtain ⟨s3, hw, R3, F3⟩ := T
  obtain ⟨rfl, rfl⟩ := hv.fn hw
  refine mw_lif_same 1611 (dT dLw_step 24 rfl) (dT dLw_step 25 rfl) (by decide) ?_
  exact LwP.bump hk (J h3 _ (C2.frC F3) R3)
theorem lc_swing {n : Nat} {xs : Nat → Int32} {k : Nat} {i : Int} {h : mH} {σ : Sg} (hk : k < 600) (hn : n ≤ 3072) (hij : 0 ≤ i ∧ i + 5 < n) (C : CG h σ) (R : RG h σ) (J : ∀ h2 s2, CG h2 s2 → RG h2 s2 → At (LwP n xs (k + 1)) ML_law 1611 [mR 70 0, mR 25 0, mR 30 0, mR 46 0, mI i, mU, mU] [] h2) : At (LwP n xs k) ML_law 1135 [mR 70 0, mR 25 0, mR 30 0, mR 46 0, mI i, mU, mU] [] h := by
  refine mw_aload_n (dT dLw_swing 0 rfl) rfl (by decide) ?_
  refine ld (dT dLw_swing 1 rfl) (dT dLw_swing 2 rfl) (dT dLw_swing 3 rfl) (dT dLw_swing 4 rfl) (dT dLw_swing 5 rfl) rfl rfl hn (by omega) ?_
  refine ld (dT dLw_swing 6 rfl) (dT dLw_swing 7 rfl) (dT dLw_swing 8 rfl) (dT dLw_swing 9 rfl) (dT dLw_swing 10 rfl) rfl rfl hn (by omega) ?_
  refine ld (dT dLw_swing 11 rfl) (dT dLw_swing 12 rfl) (dT dLw_swing 13 rfl) (dT dLw_swing 14 rfl) (dT dLw_swing 15 rfl) rfl rfl hn (by omega) ?_
  refine mw_callVI mv_6_swing ml_L_146 (by decide) (dT dLw_swing 16 rfl) (as := [mI _, mI _, mI _]) rfl rfl (m_swing C (xv_r xs _) (xv_r xs _) (xv_r xs _) (K := KC (P1 (q_swing σ (xv xs (i + 1)) (xv xs (i + 2)) (xv xs (i + 3))) σ) h) (fun h2 c d => KC.mk1 c d)) (fun v h2 T => ?_)
  obtain ⟨s2, hv, C2, F2⟩ := T
  refine mw_aload_n (dT dLw_swing 17 rfl) rfl (by decide) ?_
  refine ld (dT dLw_swing 18 rfl) (dT dLw_swing 19 rfl) (dT dLw_swing 20 rfl) (dT dLw_swing 21 rfl) (dT dLw_swing 22 rfl) rfl rfl hn (by omega) ?_
  refine ld (dT dLw_swing 23 rfl) (dT dLw_swing 24 rfl) (dT dLw_swing 25 rfl) (dT dLw_swing 26 rfl) (dT dLw_swing 27 rfl) rfl rfl hn (by omega) ?_
  refine ld (dT dLw_swing 28 rfl) (dT dLw_swing 29 rfl) (dT dLw_swing 30 rfl) (dT dLw_swing 31 rfl) (dT dLw_swing 32 rfl) rfl rfl hn (by omega) ?_
  refine mw_callVI mv_7_swing ml_L_149 (by decide) (dT dLw_swing 33 rfl) (as := [mI _, mI _, mI _]) rfl rfl (r_swing (R.frM F2) (xv_r xs _) (xv_r xs _) (xv_r xs _) (K := KR (P1 (q_swing σ (xv xs (i + 1)) (xv xs (i + 2)) (xv xs (i + 3))) σ) h2) (fun h2 c d => KR.mk1 c d)) (fun v3 h3 T => ?_)
  obtain ⟨s3, hw, R3, F3⟩ := T
  obtain ⟨rfl, rfl⟩ := hv.fn hw
  refine mw_icmp_same 1611 (dT dLw_swing 34 rfl) (by decide) ?_
  exact LwP.bump hk (J h3 _ (C2.frC F3) R3)
theorem lc_ratio {n : Nat} {xs : Nat → Int32} {k : Nat} {i : Int} {h : mH} {σ : Sg} (hk : k < 600) (hn : n ≤ 3072) (hij : 0 ≤ i ∧ i + 5 < n) (C : CG h σ) (R : RG h σ) (J : ∀ h2 s2, CG h2 s2 → RG h2 s2 → At (LwP n xs (k + 1)) ML_law 1611 [mR 70 0, mR 25 0, mR 30 0, mR 46 0, mI i, mU, mU] [] h2) : At (LwP n xs k) ML_law 1184 [mR 70 0, mR 25 0, mR 30 0, mR 46 0, mI i, mU, mU] [] h := by
  refine mw_aload_n (dT dLw_ratio 0 rfl) rfl (by decide) ?_
  refine ld (dT dLw_ratio 1 rfl) (dT dLw_ratio 2 rfl) (dT dLw_ratio 3 rfl) (dT dLw_ratio 4 rfl) (dT dLw_ratio 5 rfl) rfl rfl hn (by omega) ?_
  refine ld (dT dLw_ratio 6 rfl) (dT dLw_ratio 7 rfl) (dT dLw_ratio 8 rfl) (dT dLw_ratio 9 rfl) (dT dLw_ratio 10 rfl) rfl rfl hn (by omega) ?_
  refine mw_callVJ mv_6_ratio ml_L_150 (by decide) (dT dLw_ratio 11 rfl) (as := [mI _, mI _]) rfl rfl (m_ratio C (xv_r xs _) (xv_r xs _) (K := KC (P1 (q_ratio σ (xv xs (i + 1)) (xv xs (i + 2))) σ) h) (fun h2 c d => KC.mk1 c d)) (fun v h2 T => ?_)
  obtain ⟨s2, hv, C2, F2⟩ := T
  refine mw_aload_n (dT dLw_ratio 12 rfl) rfl (by decide) ?_
  refine ld (dT dLw_ratio 13 rfl) (dT dLw_ratio 14 rfl) (dT dLw_ratio 15 rfl) (dT dLw_ratio 16 rfl) (dT dLw_ratio 17 rfl) rfl rfl hn (by omega) ?_
  refine ld (dT dLw_ratio 18 rfl) (dT dLw_ratio 19 rfl) (dT dLw_ratio 20 rfl) (dT dLw_ratio 21 rfl) (dT dLw_ratio 22 rfl) rfl rfl hn (by omega) ?_
  refine mw_callVJ mv_7_ratio ml_L_153 (by decide) (dT dLw_ratio 23 rfl) (as := [mI _, mI _]) rfl rfl (r_ratio (R.frM F2) (xv_r xs _) (xv_r xs _) (K := KR (P1 (q_ratio σ (xv xs (i + 1)) (xv xs (i + 2))) σ) h2) (fun h2 c d => KR.mk1 c d)) (fun v3 h3 T => ?_)
  obtain ⟨s3, hw, R3, F3⟩ := T
  obtain ⟨rfl, rfl⟩ := hv.fn hw
  refine mw_lif_same 1611 (dT dLw_ratio 24 rfl) (dT dLw_ratio 25 rfl) (by decide) ?_
  exact LwP.bump hk (J h3 _ (C2.frC F3) R3)
theorem lc_worst {n : Nat} {xs : Nat → Int32} {k : Nat} {i : Int} {h : mH} {σ : Sg} (hk : k < 600) (hn : n ≤ 3072) (hij : 0 ≤ i ∧ i + 5 < n) (C : CG h σ) (R : RG h σ) (J : ∀ h2 s2, CG h2 s2 → RG h2 s2 → At (LwP n xs (k + 1)) ML_law 1611 [mR 70 0, mR 25 0, mR 30 0, mR 46 0, mI i, mU, mU] [] h2) : At (LwP n xs k) ML_law 1222 [mR 70 0, mR 25 0, mR 30 0, mR 46 0, mI i, mU, mU] [] h := by
  refine mw_aload_n (dT dLw_worst 0 rfl) rfl (by decide) ?_
  refine mw_callVI mv_6_worst ml_L_154 (by decide) (dT dLw_worst 1 rfl) (as := []) rfl rfl (m_worst C (K := KC (P1 (q_worst σ) σ) h) (fun h2 c d => KC.mk1 c d)) (fun v h2 T => ?_)
  obtain ⟨s2, hv, C2, F2⟩ := T
  refine mw_aload_n (dT dLw_worst 2 rfl) rfl (by decide) ?_
  refine mw_callVI mv_7_worst ml_L_157 (by decide) (dT dLw_worst 3 rfl) (as := []) rfl rfl (r_worst (R.frM F2) (K := KR (P1 (q_worst σ) σ) h2) (fun h2 c d => KR.mk1 c d)) (fun v3 h3 T => ?_)
  obtain ⟨s3, hw, R3, F3⟩ := T
  obtain ⟨rfl, rfl⟩ := hv.fn hw
  refine mw_icmp_same 1611 (dT dLw_worst 4 rfl) (by decide) ?_
  exact LwP.bump hk (J h3 _ (C2.frC F3) R3)
theorem lc_hardest {n : Nat} {xs : Nat → Int32} {k : Nat} {i : Int} {h : mH} {σ : Sg} (hk : k < 600) (hn : n ≤ 3072) (hij : 0 ≤ i ∧ i + 5 < n) (C : CG h σ) (R : RG h σ) (J : ∀ h2 s2, CG h2 s2 → RG h2 s2 → At (LwP n xs (k + 1)) ML_law 1611 [mR 70 0, mR 25 0, mR 30 0, mR 46 0, mI i, mU, mU] [] h2) : At (LwP n xs k) ML_law 1235 [mR 70 0, mR 25 0, mR 30 0, mR 46 0, mI i, mU, mU] [] h := by
  refine mw_aload_n (dT dLw_hardest 0 rfl) rfl (by decide) ?_
  refine ld (dT dLw_hardest 1 rfl) (dT dLw_hardest 2 rfl) (dT dLw_hardest 3 rfl) (dT dLw_hardest 4 rfl) (dT dLw_hardest 5 rfl) rfl rfl hn (by omega) ?_
  refine mw_callVI mv_6_hardest ml_L_158 (by decide) (dT dLw_hardest 6 rfl) (as := [mI _]) rfl rfl (m_hardest C (xv_r xs _) (K := KC (P1 (q_hardest σ (xv xs (i + 1))) σ) h) (fun h2 c d => KC.mk1 c d)) (fun v h2 T => ?_)
  obtain ⟨s2, hv, C2, F2⟩ := T
  refine mw_aload_n (dT dLw_hardest 7 rfl) rfl (by decide) ?_
  refine ld (dT dLw_hardest 8 rfl) (dT dLw_hardest 9 rfl) (dT dLw_hardest 10 rfl) (dT dLw_hardest 11 rfl) (dT dLw_hardest 12 rfl) rfl rfl hn (by omega) ?_
  refine mw_callVI mv_7_hardest ml_L_161 (by decide) (dT dLw_hardest 13 rfl) (as := [mI _]) rfl rfl (r_hardest (R.frM F2) (xv_r xs _) (K := KR (P1 (q_hardest σ (xv xs (i + 1))) σ) h2) (fun h2 c d => KR.mk1 c d)) (fun v3 h3 T => ?_)
  obtain ⟨s3, hw, R3, F3⟩ := T
  obtain ⟨rfl, rfl⟩ := hv.fn hw
  refine mw_icmp_same 1611 (dT dLw_hardest 14 rfl) (by decide) ?_
  exact LwP.bump hk (J h3 _ (C2.frC F3) R3)
theorem lc_ranked {n : Nat} {xs : Nat → Int32} {k : Nat} {i : Int} {h : mH} {σ : Sg} (hk : k < 600) (hn : n ≤ 3072) (hij : 0 ≤ i ∧ i + 5 < n) (C : CG h σ) (R : RG h σ) (J : ∀ h2 s2, CG h2 s2 → RG h2 s2 → At (LwP n xs (k + 1)) ML_law 1611 [mR 70 0, mR 25 0, mR 30 0, mR 46 0, mI i, mU, mU] [] h2) : At (LwP n xs k) ML_law 1260 [mR 70 0, mR 25 0, mR 30 0, mR 46 0, mI i, mU, mU] [] h := by
  refine mw_aload_n (dT dLw_ranked 0 rfl) rfl (by decide) ?_
  refine ld (dT dLw_ranked 1 rfl) (dT dLw_ranked 2 rfl) (dT dLw_ranked 3 rfl) (dT dLw_ranked 4 rfl) (dT dLw_ranked 5 rfl) rfl rfl hn (by omega) ?_
  refine mw_callVI mv_6_ranked ml_L_162 (by decide) (dT dLw_ranked 6 rfl) (as := [mI _]) rfl rfl (m_ranked C (xv_r xs _) (K := KC (P1 (q_ranked σ (xv xs (i + 1))) σ) h) (fun h2 c d => KC.mk1 c d)) (fun v h2 T => ?_)
  obtain ⟨s2, hv, C2, F2⟩ := T
  refine mw_aload_n (dT dLw_ranked 7 rfl) rfl (by decide) ?_
  refine ld (dT dLw_ranked 8 rfl) (dT dLw_ranked 9 rfl) (dT dLw_ranked 10 rfl) (dT dLw_ranked 11 rfl) (dT dLw_ranked 12 rfl) rfl rfl hn (by omega) ?_
  refine mw_callVI mv_7_ranked ml_L_165 (by decide) (dT dLw_ranked 13 rfl) (as := [mI _]) rfl rfl (r_ranked (R.frM F2) (xv_r xs _) (K := KR (P1 (q_ranked σ (xv xs (i + 1))) σ) h2) (fun h2 c d => KR.mk1 c d)) (fun v3 h3 T => ?_)
  obtain ⟨s3, hw, R3, F3⟩ := T
  obtain ⟨rfl, rfl⟩ := hv.fn hw
  refine mw_icmp_same 1611 (dT dLw_ranked 14 rfl) (by decide) ?_
  exact LwP.bump hk (J h3 _ (C2.frC F3) R3)
theorem lc_leastCap {n : Nat} {xs : Nat → Int32} {k : Nat} {i : Int} {h : mH} {σ : Sg} (hk : k < 600) (hn : n ≤ 3072) (hij : 0 ≤ i ∧ i + 5 < n) (C : CG h σ) (R : RG h σ) (J : ∀ h2 s2, CG h2 s2 → RG h2 s2 → At (LwP n xs (k + 1)) ML_law 1611 [mR 70 0, mR 25 0, mR 30 0, mR 46 0, mI i, mU, mU] [] h2) : At (LwP n xs k) ML_law 1285 [mR 70 0, mR 25 0, mR 30 0, mR 46 0, mI i, mU, mU] [] h := by
  refine mw_aload_n (dT dLw_leastCap 0 rfl) rfl (by decide) ?_
  refine mw_callVI mv_6_leastCap ml_L_166 (by decide) (dT dLw_leastCap 1 rfl) (as := []) rfl rfl (m_leastCap C (K := KC (P1 (q_leastCap σ) σ) h) (fun h2 c d => KC.mk1 c d)) (fun v h2 T => ?_)
  obtain ⟨s2, hv, C2, F2⟩ := T
  refine mw_aload_n (dT dLw_leastCap 2 rfl) rfl (by decide) ?_
  refine mw_callVI mv_7_leastCap ml_L_169 (by decide) (dT dLw_leastCap 3 rfl) (as := []) rfl rfl (r_leastCap (R.frM F2) (K := KR (P1 (q_leastCap σ) σ) h2) (fun h2 c d => KR.mk1 c d)) (fun v3 h3 T => ?_)
  obtain ⟨s3, hw, R3, F3⟩ := T
  obtain ⟨rfl, rfl⟩ := hv.fn hw
  refine mw_icmp_same 1611 (dT dLw_leastCap 4 rfl) (by decide) ?_
  exact LwP.bump hk (J h3 _ (C2.frC F3) R3)
theorem lc_withoutFactor {n : Nat} {xs : Nat → Int32} {k : Nat} {i : Int} {h : mH} {σ : Sg} (hk : k < 600) (hn : n ≤ 3072) (hij : 0 ≤ i ∧ i + 5 < n) (C : CG h σ) (R : RG h σ) (J : ∀ h2 s2, CG h2 s2 → RG h2 s2 → At (LwP n xs (k + 1)) ML_law 1611 [mR 70 0, mR 25 0, mR 30 0, mR 46 0, mI i, mU, mU] [] h2) : At (LwP n xs k) ML_law 1298 [mR 70 0, mR 25 0, mR 30 0, mR 46 0, mI i, mU, mU] [] h := by
  refine mw_aload_n (dT dLw_withoutFactor 0 rfl) rfl (by decide) ?_
  refine ld (dT dLw_withoutFactor 1 rfl) (dT dLw_withoutFactor 2 rfl) (dT dLw_withoutFactor 3 rfl) (dT dLw_withoutFactor 4 rfl) (dT dLw_withoutFactor 5 rfl) rfl rfl hn (by omega) ?_
  refine ld (dT dLw_withoutFactor 6 rfl) (dT dLw_withoutFactor 7 rfl) (dT dLw_withoutFactor 8 rfl) (dT dLw_withoutFactor 9 rfl) (dT dLw_withoutFactor 10 rfl) rfl rfl hn (by omega) ?_
  refine mw_callVJ mv_6_withoutFactor ml_L_170 (by decide) (dT dLw_withoutFactor 11 rfl) (as := [mI _, mI _]) rfl rfl (m_withoutFactor C (xv_r xs _) (xv_r xs _) (K := KC (P1 (q_withoutFactor σ (xv xs (i + 1)) (xv xs (i + 2))) σ) h) (fun h2 c d => KC.mk1 c d)) (fun v h2 T => ?_)
  obtain ⟨s2, hv, C2, F2⟩ := T
  refine mw_aload_n (dT dLw_withoutFactor 12 rfl) rfl (by decide) ?_
  refine ld (dT dLw_withoutFactor 13 rfl) (dT dLw_withoutFactor 14 rfl) (dT dLw_withoutFactor 15 rfl) (dT dLw_withoutFactor 16 rfl) (dT dLw_withoutFactor 17 rfl) rfl rfl hn (by omega) ?_
  refine ld (dT dLw_withoutFactor 18 rfl) (dT dLw_withoutFactor 19 rfl) (dT dLw_withoutFactor 20 rfl) (dT dLw_withoutFactor 21 rfl) (dT dLw_withoutFactor 22 rfl) rfl rfl hn (by omega) ?_
  refine mw_callVJ mv_7_withoutFactor ml_L_173 (by decide) (dT dLw_withoutFactor 23 rfl) (as := [mI _, mI _]) rfl rfl (r_withoutFactor (R.frM F2) (xv_r xs _) (xv_r xs _) (K := KR (P1 (q_withoutFactor σ (xv xs (i + 1)) (xv xs (i + 2))) σ) h2) (fun h2 c d => KR.mk1 c d)) (fun v3 h3 T => ?_)
  obtain ⟨s3, hw, R3, F3⟩ := T
  obtain ⟨rfl, rfl⟩ := hv.fn hw
  refine mw_lif_same 1611 (dT dLw_withoutFactor 24 rfl) (dT dLw_withoutFactor 25 rfl) (by decide) ?_
  exact LwP.bump hk (J h3 _ (C2.frC F3) R3)
theorem lc_bestJoin {n : Nat} {xs : Nat → Int32} {k : Nat} {i : Int} {h : mH} {σ : Sg} (hk : k < 600) (hn : n ≤ 3072) (hij : 0 ≤ i ∧ i + 5 < n) (C : CG h σ) (R : RG h σ) (J : ∀ h2 s2, CG h2 s2 → RG h2 s2 → At (LwP n xs (k + 1)) ML_law 1611 [mR 70 0, mR 25 0, mR 30 0, mR 46 0, mI i, mU, mU] [] h2) : At (LwP n xs k) ML_law 1336 [mR 70 0, mR 25 0, mR 30 0, mR 46 0, mI i, mU, mU] [] h := by
  refine mw_aload_n (dT dLw_bestJoin 0 rfl) rfl (by decide) ?_
  refine ld (dT dLw_bestJoin 1 rfl) (dT dLw_bestJoin 2 rfl) (dT dLw_bestJoin 3 rfl) (dT dLw_bestJoin 4 rfl) (dT dLw_bestJoin 5 rfl) rfl rfl hn (by omega) ?_
  refine ld (dT dLw_bestJoin 6 rfl) (dT dLw_bestJoin 7 rfl) (dT dLw_bestJoin 8 rfl) (dT dLw_bestJoin 9 rfl) (dT dLw_bestJoin 10 rfl) rfl rfl hn (by omega) ?_
  refine mw_callVI mv_6_bestJoin ml_L_174 (by decide) (dT dLw_bestJoin 11 rfl) (as := [mI _, mI _]) rfl rfl (m_bestJoin C (xv_r xs _) (xv_r xs _) (K := KC (P1 (q_bestJoin σ (xv xs (i + 1)) (xv xs (i + 2))) σ) h) (fun h2 c d => KC.mk1 c d)) (fun v h2 T => ?_)
  obtain ⟨s2, hv, C2, F2⟩ := T
  refine mw_aload_n (dT dLw_bestJoin 12 rfl) rfl (by decide) ?_
  refine ld (dT dLw_bestJoin 13 rfl) (dT dLw_bestJoin 14 rfl) (dT dLw_bestJoin 15 rfl) (dT dLw_bestJoin 16 rfl) (dT dLw_bestJoin 17 rfl) rfl rfl hn (by omega) ?_
  refine ld (dT dLw_bestJoin 18 rfl) (dT dLw_bestJoin 19 rfl) (dT dLw_bestJoin 20 rfl) (dT dLw_bestJoin 21 rfl) (dT dLw_bestJoin 22 rfl) rfl rfl hn (by omega) ?_
  refine mw_callVI mv_7_bestJoin ml_L_177 (by decide) (dT dLw_bestJoin 23 rfl) (as := [mI _, mI _]) rfl rfl (r_bestJoin (R.frM F2) (xv_r xs _) (xv_r xs _) (K := KR (P1 (q_bestJoin σ (xv xs (i + 1)) (xv xs (i + 2))) σ) h2) (fun h2 c d => KR.mk1 c d)) (fun v3 h3 T => ?_)
  obtain ⟨s3, hw, R3, F3⟩ := T
  obtain ⟨rfl, rfl⟩ := hv.fn hw
  refine mw_icmp_same 1611 (dT dLw_bestJoin 24 rfl) (by decide) ?_
  exact LwP.bump hk (J h3 _ (C2.frC F3) R3)
theorem lc_withoutRisk {n : Nat} {xs : Nat → Int32} {k : Nat} {i : Int} {h : mH} {σ : Sg} (hk : k < 600) (hn : n ≤ 3072) (hij : 0 ≤ i ∧ i + 5 < n) (C : CG h σ) (R : RG h σ) (J : ∀ h2 s2, CG h2 s2 → RG h2 s2 → At (LwP n xs (k + 1)) ML_law 1611 [mR 70 0, mR 25 0, mR 30 0, mR 46 0, mI i, mU, mU] [] h2) : At (LwP n xs k) ML_law 1373 [mR 70 0, mR 25 0, mR 30 0, mR 46 0, mI i, mU, mU] [] h := by
  refine mw_aload_n (dT dLw_withoutRisk 0 rfl) rfl (by decide) ?_
  refine ld (dT dLw_withoutRisk 1 rfl) (dT dLw_withoutRisk 2 rfl) (dT dLw_withoutRisk 3 rfl) (dT dLw_withoutRisk 4 rfl) (dT dLw_withoutRisk 5 rfl) rfl rfl hn (by omega) ?_
  refine ld (dT dLw_withoutRisk 6 rfl) (dT dLw_withoutRisk 7 rfl) (dT dLw_withoutRisk 8 rfl) (dT dLw_withoutRisk 9 rfl) (dT dLw_withoutRisk 10 rfl) rfl rfl hn (by omega) ?_
  refine mw_callVI mv_6_withoutRisk ml_L_178 (by decide) (dT dLw_withoutRisk 11 rfl) (as := [mI _, mI _]) rfl rfl (m_withoutRisk C (xv_r xs _) (xv_r xs _) (K := KC (P1 (q_withoutRisk σ (xv xs (i + 1)) (xv xs (i + 2))) σ) h) (fun h2 c d => KC.mk1 c d)) (fun v h2 T => ?_)
  obtain ⟨s2, hv, C2, F2⟩ := T
  refine mw_aload_n (dT dLw_withoutRisk 12 rfl) rfl (by decide) ?_
  refine ld (dT dLw_withoutRisk 13 rfl) (dT dLw_withoutRisk 14 rfl) (dT dLw_withoutRisk 15 rfl) (dT dLw_withoutRisk 16 rfl) (dT dLw_withoutRisk 17 rfl) rfl rfl hn (by omega) ?_
  refine ld (dT dLw_withoutRisk 18 rfl) (dT dLw_withoutRisk 19 rfl) (dT dLw_withoutRisk 20 rfl) (dT dLw_withoutRisk 21 rfl) (dT dLw_withoutRisk 22 rfl) rfl rfl hn (by omega) ?_
  refine mw_callVI mv_7_withoutRisk ml_L_181 (by decide) (dT dLw_withoutRisk 23 rfl) (as := [mI _, mI _]) rfl rfl (r_withoutRisk (R.frM F2) (xv_r xs _) (xv_r xs _) (K := KR (P1 (q_withoutRisk σ (xv xs (i + 1)) (xv xs (i + 2))) σ) h2) (fun h2 c d => KR.mk1 c d)) (fun v3 h3 T => ?_)
  obtain ⟨s3, hw, R3, F3⟩ := T
  obtain ⟨rfl, rfl⟩ := hv.fn hw
  refine mw_icmp_same 1611 (dT dLw_withoutRisk 24 rfl) (by decide) ?_
  exact LwP.bump hk (J h3 _ (C2.frC F3) R3)
theorem lc_quote {n : Nat} {xs : Nat → Int32} {k : Nat} {i : Int} {h : mH} {σ : Sg} (hk : k < 600) (hn : n ≤ 3072) (hij : 0 ≤ i ∧ i + 5 < n) (C : CG h σ) (R : RG h σ) (J : ∀ h2 s2, CG h2 s2 → RG h2 s2 → At (LwP n xs (k + 1)) ML_law 1611 [mR 70 0, mR 25 0, mR 30 0, mR 46 0, mI i, mU, mU] [] h2) : At (LwP n xs k) ML_law 1410 [mR 70 0, mR 25 0, mR 30 0, mR 46 0, mI i, mU, mU] [] h := by
  refine mw_aload_n (dT dLw_quote 0 rfl) rfl (by decide) ?_
  refine ld (dT dLw_quote 1 rfl) (dT dLw_quote 2 rfl) (dT dLw_quote 3 rfl) (dT dLw_quote 4 rfl) (dT dLw_quote 5 rfl) rfl rfl hn (by omega) ?_
  refine ld (dT dLw_quote 6 rfl) (dT dLw_quote 7 rfl) (dT dLw_quote 8 rfl) (dT dLw_quote 9 rfl) (dT dLw_quote 10 rfl) rfl rfl hn (by omega) ?_
  refine mw_callVJ mv_6_quote ml_L_182 (by decide) (dT dLw_quote 11 rfl) (as := [mI _, mI _]) rfl rfl (m_quote C (xv_r xs _) (xv_r xs _) (K := KC (P1 (q_quote σ (xv xs (i + 1)) (xv xs (i + 2))) σ) h) (fun h2 c d => KC.mk1 c d)) (fun v h2 T => ?_)
  obtain ⟨s2, hv, C2, F2⟩ := T
  refine mw_aload_n (dT dLw_quote 12 rfl) rfl (by decide) ?_
  refine ld (dT dLw_quote 13 rfl) (dT dLw_quote 14 rfl) (dT dLw_quote 15 rfl) (dT dLw_quote 16 rfl) (dT dLw_quote 17 rfl) rfl rfl hn (by omega) ?_
  refine ld (dT dLw_quote 18 rfl) (dT dLw_quote 19 rfl) (dT dLw_quote 20 rfl) (dT dLw_quote 21 rfl) (dT dLw_quote 22 rfl) rfl rfl hn (by omega) ?_
  refine mw_callVJ mv_7_quote ml_L_185 (by decide) (dT dLw_quote 23 rfl) (as := [mI _, mI _]) rfl rfl (r_quote (R.frM F2) (xv_r xs _) (xv_r xs _) (K := KR (P1 (q_quote σ (xv xs (i + 1)) (xv xs (i + 2))) σ) h2) (fun h2 c d => KR.mk1 c d)) (fun v3 h3 T => ?_)
  obtain ⟨s3, hw, R3, F3⟩ := T
  obtain ⟨rfl, rfl⟩ := hv.fn hw
  refine mw_lif_same 1611 (dT dLw_quote 24 rfl) (dT dLw_quote 25 rfl) (by decide) ?_
  exact LwP.bump hk (J h3 _ (C2.frC F3) R3)
theorem lc_kinds {n : Nat} {xs : Nat → Int32} {k : Nat} {i : Int} {h : mH} {σ : Sg} (hk : k < 600) (hn : n ≤ 3072) (hij : 0 ≤ i ∧ i + 5 < n) (C : CG h σ) (R : RG h σ) (J : ∀ h2 s2, CG h2 s2 → RG h2 s2 → At (LwP n xs (k + 1)) ML_law 1611 [mR 70 0, mR 25 0, mR 30 0, mR 46 0, mI i, mU, mU] [] h2) : At (LwP n xs k) ML_law 1448 [mR 70 0, mR 25 0, mR 30 0, mR 46 0, mI i, mU, mU] [] h := by
  refine mw_aload_n (dT dLw_kinds 0 rfl) rfl (by decide) ?_
  refine ld (dT dLw_kinds 1 rfl) (dT dLw_kinds 2 rfl) (dT dLw_kinds 3 rfl) (dT dLw_kinds 4 rfl) (dT dLw_kinds 5 rfl) rfl rfl hn (by omega) ?_
  refine mw_callVI mv_6_kinds ml_L_186 (by decide) (dT dLw_kinds 6 rfl) (as := [mI _]) rfl rfl (m_kinds C (xv_r xs _) (K := KC (P1 (q_kinds σ (xv xs (i + 1))) σ) h) (fun h2 c d => KC.mk1 c d)) (fun v h2 T => ?_)
  obtain ⟨s2, hv, C2, F2⟩ := T
  refine mw_aload_n (dT dLw_kinds 7 rfl) rfl (by decide) ?_
  refine ld (dT dLw_kinds 8 rfl) (dT dLw_kinds 9 rfl) (dT dLw_kinds 10 rfl) (dT dLw_kinds 11 rfl) (dT dLw_kinds 12 rfl) rfl rfl hn (by omega) ?_
  refine mw_callVI mv_7_kinds ml_L_189 (by decide) (dT dLw_kinds 13 rfl) (as := [mI _]) rfl rfl (r_kinds (R.frM F2) (xv_r xs _) (K := KR (P1 (q_kinds σ (xv xs (i + 1))) σ) h2) (fun h2 c d => KR.mk1 c d)) (fun v3 h3 T => ?_)
  obtain ⟨s3, hw, R3, F3⟩ := T
  obtain ⟨rfl, rfl⟩ := hv.fn hw
  refine mw_icmp_same 1611 (dT dLw_kinds 14 rfl) (by decide) ?_
  exact LwP.bump hk (J h3 _ (C2.frC F3) R3)
theorem lc_chance {n : Nat} {xs : Nat → Int32} {k : Nat} {i : Int} {h : mH} {σ : Sg} (hk : k < 600) (hn : n ≤ 3072) (hij : 0 ≤ i ∧ i + 5 < n) (C : CG h σ) (R : RG h σ) (J : ∀ h2 s2, CG h2 s2 → RG h2 s2 → At (LwP n xs (k + 1)) ML_law 1611 [mR 70 0, mR 25 0, mR 30 0, mR 46 0, mI i, mU, mU] [] h2) : At (LwP n xs k) ML_law 1473 [mR 70 0, mR 25 0, mR 30 0, mR 46 0, mI i, mU, mU] [] h := by
  refine mw_aload_n (dT dLw_chance 0 rfl) rfl (by decide) ?_
  refine ld (dT dLw_chance 1 rfl) (dT dLw_chance 2 rfl) (dT dLw_chance 3 rfl) (dT dLw_chance 4 rfl) (dT dLw_chance 5 rfl) rfl rfl hn (by omega) ?_
  refine ld (dT dLw_chance 6 rfl) (dT dLw_chance 7 rfl) (dT dLw_chance 8 rfl) (dT dLw_chance 9 rfl) (dT dLw_chance 10 rfl) rfl rfl hn (by omega) ?_
  refine ld (dT dLw_chance 11 rfl) (dT dLw_chance 12 rfl) (dT dLw_chance 13 rfl) (dT dLw_chance 14 rfl) (dT dLw_chance 15 rfl) rfl rfl hn (by omega) ?_
  refine ld (dT dLw_chance 16 rfl) (dT dLw_chance 17 rfl) (dT dLw_chance 18 rfl) (dT dLw_chance 19 rfl) (dT dLw_chance 20 rfl) rfl rfl hn (by omega) ?_
  refine ld (dT dLw_chance 21 rfl) (dT dLw_chance 22 rfl) (dT dLw_chance 23 rfl) (dT dLw_chance 24 rfl) (dT dLw_chance 25 rfl) rfl rfl hn (by omega) ?_
  refine mw_callVJ mv_6_chance ml_L_190 (by decide) (dT dLw_chance 26 rfl) (as := [mI _, mI _, mI _, mI _, mI _]) rfl rfl (m_chance C (xv_r xs _) (xv_r xs _) (xv_r xs _) (xv_r xs _) (xv_r xs _) (K := KC (P1 (q_chance σ (xv xs (i + 1)) (xv xs (i + 2)) (xv xs (i + 3)) (xv xs (i + 4)) (xv xs (i + 5))) σ) h) (fun h2 c d => KC.mk1 c d)) (fun v h2 T => ?_)
  obtain ⟨s2, hv, C2, F2⟩ := T
  refine mw_aload_n (dT dLw_chance 27 rfl) rfl (by decide) ?_
  refine ld (dT dLw_chance 28 rfl) (dT dLw_chance 29 rfl) (dT dLw_chance 30 rfl) (dT dLw_chance 31 rfl) (dT dLw_chance 32 rfl) rfl rfl hn (by omega) ?_
  refine ld (dT dLw_chance 33 rfl) (dT dLw_chance 34 rfl) (dT dLw_chance 35 rfl) (dT dLw_chance 36 rfl) (dT dLw_chance 37 rfl) rfl rfl hn (by omega) ?_
  refine ld (dT dLw_chance 38 rfl) (dT dLw_chance 39 rfl) (dT dLw_chance 40 rfl) (dT dLw_chance 41 rfl) (dT dLw_chance 42 rfl) rfl rfl hn (by omega) ?_
  refine ld (dT dLw_chance 43 rfl) (dT dLw_chance 44 rfl) (dT dLw_chance 45 rfl) (dT dLw_chance 46 rfl) (dT dLw_chance 47 rfl) rfl rfl hn (by omega) ?_
  refine ld (dT dLw_chance 48 rfl) (dT dLw_chance 49 rfl) (dT dLw_chance 50 rfl) (dT dLw_chance 51 rfl) (dT dLw_chance 52 rfl) rfl rfl hn (by omega) ?_
  refine mw_callVJ mv_7_chance ml_L_194 (by decide) (dT dLw_chance 53 rfl) (as := [mI _, mI _, mI _, mI _, mI _]) rfl rfl (r_chance (R.frM F2) (xv_r xs _) (xv_r xs _) (xv_r xs _) (xv_r xs _) (xv_r xs _) (K := KR (P1 (q_chance σ (xv xs (i + 1)) (xv xs (i + 2)) (xv xs (i + 3)) (xv xs (i + 4)) (xv xs (i + 5))) σ) h2) (fun h2 c d => KR.mk1 c d)) (fun v3 h3 T => ?_)
  obtain ⟨s3, hw, R3, F3⟩ := T
  obtain ⟨rfl, rfl⟩ := hv.fn hw
  refine mw_lif_same 1611 (dT dLw_chance 54 rfl) (dT dLw_chance 55 rfl) (by decide) ?_
  exact LwP.bump hk (J h3 _ (C2.frC F3) R3)
theorem lc_undo {n : Nat} {xs : Nat → Int32} {k : Nat} {i : Int} {h : mH} {σ : Sg} (hk : k < 600) (hn : n ≤ 3072) (hij : 0 ≤ i ∧ i + 5 < n) (C : CG h σ) (R : RG h σ) (J : ∀ h2 s2, CG h2 s2 → RG h2 s2 → At (LwP n xs (k + 1)) ML_law 1611 [mR 70 0, mR 25 0, mR 30 0, mR 46 0, mI i, mU, mU] [] h2) : At (LwP n xs k) ML_law 1547 [mR 70 0, mR 25 0, mR 30 0, mR 46 0, mI i, mU, mU] [] h := by
  refine mw_aload_n (dT dLw_undo 0 rfl) rfl (by decide) ?_
  refine mw_callVI mv_6_undo ml_L_195 (by decide) (dT dLw_undo 1 rfl) (as := []) rfl rfl (m_undo C (K := KC (P2 (0 < (gU σ).1) ((gU σ).1 - 1) (toU (toS σ ((gU σ).2 ((gU σ).1 - 1))) ((gU σ).1 - 1)) (-1) σ) h) (fun a h2 c d => KC.in1 a c d) (fun a h2 c d => KC.in0 (by omega) c d)) (fun v h2 T => ?_)
  obtain ⟨s2, hv, C2, F2⟩ := T
  refine mw_aload_n (dT dLw_undo 2 rfl) rfl (by decide) ?_
  refine mw_callVI mv_7_undo ml_L_198 (by decide) (dT dLw_undo 3 rfl) (as := []) rfl rfl (r_undo (R.frM F2) (K := KR (P2 (0 < (gU σ).1) ((gU σ).1 - 1) (toU (toS σ ((gU σ).2 ((gU σ).1 - 1))) ((gU σ).1 - 1)) (-1) σ) h2) (fun a h2 c d => KR.in1 a c d) (fun a h2 c d => KR.in0 (by omega) c d)) (fun v3 h3 T => ?_)
  obtain ⟨s3, hw, R3, F3⟩ := T
  obtain ⟨rfl, rfl⟩ := hv.fn hw
  refine mw_icmp_same 1611 (dT dLw_undo 4 rfl) (by decide) ?_
  exact LwP.bump hk (J h3 _ (C2.frC F3) R3)
theorem lc_keep {n : Nat} {xs : Nat → Int32} {k : Nat} {i : Int} {h : mH} {σ : Sg} (hk : k < 600) (hn : n ≤ 3072) (hij : 0 ≤ i ∧ i + 5 < n) (C : CG h σ) (R : RG h σ) (J : ∀ h2 s2, CG h2 s2 → RG h2 s2 → At (LwP n xs (k + 1)) ML_law 1611 [mR 70 0, mR 25 0, mR 30 0, mR 46 0, mI i, mU, mU] [] h2) : At (LwP n xs k) ML_law 1560 [mR 70 0, mR 25 0, mR 30 0, mR 46 0, mI i, mU, mU] [] h := by
  refine mw_aload_n (dT dLw_keep 0 rfl) rfl (by decide) ?_
  refine mw_callVI mv_6_keep ml_L_199 (by decide) (dT dLw_keep 1 rfl) (as := []) rfl rfl (m_keep C (K := KC (P1 (gS σ 310) (toI σ 1 (gS σ))) h) (fun h2 c d => KC.mk1 c d)) (fun v h2 T => ?_)
  obtain ⟨s2, hv, C2, F2⟩ := T
  refine mw_aload_n (dT dLw_keep 2 rfl) rfl (by decide) ?_
  refine mw_callVI mv_7_keep ml_L_202 (by decide) (dT dLw_keep 3 rfl) (as := []) rfl rfl (r_keep (R.frM F2) (K := KR (P1 (gS σ 310) (toI σ 1 (gS σ))) h2) (fun h2 c d => KR.mk1 c d)) (fun v3 h3 T => ?_)
  obtain ⟨s3, hw, R3, F3⟩ := T
  obtain ⟨rfl, rfl⟩ := hv.fn hw
  refine mw_icmp_same 1611 (dT dLw_keep 4 rfl) (by decide) ?_
  exact LwP.bump hk (J h3 _ (C2.frC F3) R3)
theorem lc_back {n : Nat} {xs : Nat → Int32} {k : Nat} {i : Int} {h : mH} {σ : Sg} (hk : k < 600) (hn : n ≤ 3072) (hij : 0 ≤ i ∧ i + 5 < n) (C : CG h σ) (R : RG h σ) (J : ∀ h2 s2, CG h2 s2 → RG h2 s2 → At (LwP n xs (k + 1)) ML_law 1611 [mR 70 0, mR 25 0, mR 30 0, mR 46 0, mI i, mU, mU] [] h2) : At (LwP n xs k) ML_law 1573 [mR 70 0, mR 25 0, mR 30 0, mR 46 0, mI i, mU, mU] [] h := by
  refine mw_aload_n (dT dLw_back 0 rfl) rfl (by decide) ?_
  refine mw_callVI mv_6_back ml_L_203 (by decide) (dT dLw_back 1 rfl) (as := []) rfl rfl (m_back C (K := KC (P2 ((gI σ).1 = 1) ((gI σ).2 310) (toU (toS σ (gI σ).2) 0) (-1) σ) h) (fun a h2 c d => KC.in1 a c d) (fun a h2 c d => KC.in0 (by omega) c d)) (fun v h2 T => ?_)
  obtain ⟨s2, hv, C2, F2⟩ := T
  refine mw_aload_n (dT dLw_back 2 rfl) rfl (by decide) ?_
  refine mw_callVI mv_7_back ml_L_206 (by decide) (dT dLw_back 3 rfl) (as := []) rfl rfl (r_back (R.frM F2) (K := KR (P2 ((gI σ).1 = 1) ((gI σ).2 310) (toU (toS σ (gI σ).2) 0) (-1) σ) h2) (fun a h2 c d => KR.in1 a c d) (fun a h2 c d => KR.in0 (by omega) c d)) (fun v3 h3 T => ?_)
  obtain ⟨s3, hw, R3, F3⟩ := T
  obtain ⟨rfl, rfl⟩ := hv.fn hw
  refine mw_icmp_same 1611 (dT dLw_back 4 rfl) (by decide) ?_
  exact LwP.bump hk (J h3 _ (C2.frC F3) R3)
theorem lc_count {n : Nat} {xs : Nat → Int32} {k : Nat} {i : Int} {h : mH} {σ : Sg} (hk : k < 600) (hn : n ≤ 3072) (hij : 0 ≤ i ∧ i + 5 < n) (C : CG h σ) (R : RG h σ) (J : ∀ h2 s2, CG h2 s2 → RG h2 s2 → At (LwP n xs (k + 1)) ML_law 1611 [mR 70 0, mR 25 0, mR 30 0, mR 46 0, mI i, mU, mU] [] h2) : At (LwP n xs k) ML_law 1586 [mR 70 0, mR 25 0, mR 30 0, mR 46 0, mI i, mU, mU] [] h := by
  refine mw_aload_n (dT dLw_count 0 rfl) rfl (by decide) ?_
  refine ld (dT dLw_count 1 rfl) (dT dLw_count 2 rfl) (dT dLw_count 3 rfl) (dT dLw_count 4 rfl) (dT dLw_count 5 rfl) rfl rfl hn (by omega) ?_
  refine mw_callVI mv_6_count ml_L_207 (by decide) (dT dLw_count 6 rfl) (as := [mI _]) rfl rfl (m_count C (xv_r xs _) (K := KC (P1 (q_count σ (xv xs (i + 1))) σ) h) (fun h2 c d => KC.mk1 c d)) (fun v h2 T => ?_)
  obtain ⟨s2, hv, C2, F2⟩ := T
  refine mw_aload_n (dT dLw_count 7 rfl) rfl (by decide) ?_
  refine ld (dT dLw_count 8 rfl) (dT dLw_count 9 rfl) (dT dLw_count 10 rfl) (dT dLw_count 11 rfl) (dT dLw_count 12 rfl) rfl rfl hn (by omega) ?_
  refine mw_callVI mv_7_count ml_L_210 (by decide) (dT dLw_count 13 rfl) (as := [mI _]) rfl rfl (r_count (R.frM F2) (xv_r xs _) (K := KR (P1 (q_count σ (xv xs (i + 1))) σ) h2) (fun h2 c d => KR.mk1 c d)) (fun v3 h3 T => ?_)
  obtain ⟨s3, hw, R3, F3⟩ := T
  obtain ⟨rfl, rfl⟩ := hv.fn hw
  refine mw_icmp_same 1611 (dT dLw_count 14 rfl) (by decide) ?_
  exact LwP.bump hk (J h3 _ (C2.frC F3) R3)
