/-! the law: its factor's case, its loop -/
/-- how the two come out -/
def fkC (σ : Sg) (x1 x2 x : Int) (h2 : mH) : Prop := (CG h2 σ ∧ RG h2 σ) ∧ ((¬ (0 ≤ x1 ∧ x1 < nf (gP σ)) ∧ x = 1) ∨ ((0 ≤ x1 ∧ x1 < nf (gP σ)) ∧ ¬ (0 ≤ x2 ∧ x2 ≤ 4) ∧ x = 2) ∨ ((0 ≤ x1 ∧ x1 < nf (gP σ)) ∧ (0 ≤ x2 ∧ x2 ≤ 4) ∧ x = 0 ∧ h2 46 0 0 = wr (q_factor σ x1 x2)))
def fkR (σ : Sg) (x1 x2 : Int) (h : mH) (v : Int) (h2 : mH) : Prop := (RG h2 σ ∧ FrC h h2) ∧ ((¬ (0 ≤ x1 ∧ x1 < nf (gP σ)) ∧ h2 30 0 0 = 1) ∨ ((0 ≤ x1 ∧ x1 < nf (gP σ)) ∧ ¬ (0 ≤ x2 ∧ x2 ≤ 4) ∧ h2 30 0 0 = 2) ∨ ((0 ≤ x1 ∧ x1 < nf (gP σ)) ∧ (0 ≤ x2 ∧ x2 ≤ 4) ∧ h2 30 0 0 = 0 ∧ v = q_factor σ x1 x2))
theorem mSet_46 (h : mH) (x : Int) (r : Nat) (hr : r ≠ 46) (i : Int) : mSet h 46 0 0 x r i = h r i := funext (fun k => if_neg (fun w => hr w.1))
theorem lf_ok {h : mH} {σ : Sg} (C : CG h σ) (R : RG h σ) {x1 x2 : Int} (hx : mInR x1) (hx2 : mInR x2) : At (lPost 0 0 (fkC σ x1 x2)) ML_factor 0 [mR 25 0, mI x1, mI x2, mR 46 0, mU] [] h := by
  refine lf_at (KK := fun x h2 => (CG h2 σ ∧ RG h2 σ) ∧ (0 ≤ x1 ∧ x1 < nf (gP σ)) ∧ (0 ≤ x2 ∧ x2 ≤ 4) ∧ x = q_factor σ x1 x2) (K1 := fun h2 => (CG h2 σ ∧ RG h2 σ) ∧ ¬ (0 ≤ x1 ∧ x1 < nf (gP σ))) (K2 := fun h2 => (CG h2 σ ∧ RG h2 σ) ∧ (0 ≤ x1 ∧ x1 < nf (gP σ)) ∧ ¬ (0 ≤ x2 ∧ x2 ≤ 4))
    (m_factor C hx hx2 (fun a h2 c d => Or.inl ⟨rfl, ⟨c, R.frM d⟩, a⟩) (fun a b h2 c d => Or.inr ⟨rfl, ⟨c, R.frM d⟩, a, b⟩) (fun a b h2 c d => ⟨⟨c, R.frM d⟩, a, b, rfl⟩)) (fun x h2 T h3 e => ?_) (fun h2 T => ⟨T.1, Or.inl ⟨T.2, rfl⟩⟩) (fun h2 T => ⟨T.1, Or.inr (Or.inl ⟨T.2.1, T.2.2, rfl⟩)⟩)
  obtain ⟨⟨c, r⟩, a, b, rfl⟩ := T
  subst e
  refine ⟨⟨c.lo (fun q hq j => mSet_46 _ _ q (by omega) j), r.fr (fun q hq => mSet_46 _ _ q (by omega) 0) (fun q hq => by rw [mSet_46 _ _ 30 (by decide) 0])⟩, Or.inr (Or.inr ⟨a, b, rfl, ?_⟩)⟩
  exact if_pos ⟨rfl, rfl, rfl⟩
theorem lc_factor {n : Nat} {xs : Nat → Int32} {k : Nat} {i : Int} {h : mH} {σ : Sg} (hk : k < 600) (hn : n ≤ 3072) (hij : 0 ≤ i ∧ i + 5 < n) (C : CG h σ) (R : RG h σ) (J : ∀ h2 s2, CG h2 s2 → RG h2 s2 → At (LwP n xs (k + 1)) ML_law 1611 [mR 70 0, mR 25 0, mR 30 0, mR 46 0, mI i, mU, mU] [] h2) : At (LwP n xs k) ML_law 752 [mR 70 0, mR 25 0, mR 30 0, mR 46 0, mI i, mU, mU] [] h := by
  refine mw_aload_n (dT dLw_factor 0 rfl) rfl (by decide) ?_
  refine ld (dT dLw_factor 1 rfl) (dT dLw_factor 2 rfl) (dT dLw_factor 3 rfl) (dT dLw_factor 4 rfl) (dT dLw_factor 5 rfl) rfl rfl hn (by omega) ?_
  refine ld (dT dLw_factor 6 rfl) (dT dLw_factor 7 rfl) (dT dLw_factor 8 rfl) (dT dLw_factor 9 rfl) (dT dLw_factor 10 rfl) rfl rfl hn (by omega) ?_
  refine mw_aload_n (dT dLw_factor 11 rfl) rfl (by decide) ?_
  refine mw_callF hk (dT dLw_factor 12 rfl) rfl (lf_ok C R (xv_r xs _) (xv_r xs _)) (fun v h2 T => ?_)
  obtain ⟨⟨C2, R2⟩, T2⟩ := T
  refine mw_istore (dT dLw_factor 13 rfl) (by decide) ?_
  refine mw_aload_n (dT dLw_factor 14 rfl) rfl (by decide) ?_
  refine ld (dT dLw_factor 15 rfl) (dT dLw_factor 16 rfl) (dT dLw_factor 17 rfl) (dT dLw_factor 18 rfl) (dT dLw_factor 19 rfl) rfl rfl hn (by omega) ?_
  refine ld (dT dLw_factor 20 rfl) (dT dLw_factor 21 rfl) (dT dLw_factor 22 rfl) (dT dLw_factor 23 rfl) (dT dLw_factor 24 rfl) rfl rfl hn (by omega) ?_
  refine mw_callVI mv_7_factor ml_L_95 (by decide) (dT dLw_factor 25 rfl) (as := [mI _, mI _]) rfl rfl (r_factor R2 (xv_r xs _) (xv_r xs _) (K := fkR σ (xv xs (i + 1)) (xv xs (i + 2)) h2) (fun a h3 c d e => ⟨⟨c, d⟩, Or.inl ⟨a, e⟩⟩) (fun a b h3 c d e => ⟨⟨c, d⟩, Or.inr (Or.inl ⟨a, b, e⟩)⟩) (fun a b h3 c d e => ⟨⟨c, d⟩, Or.inr (Or.inr ⟨a, b, e, rfl⟩)⟩)) (fun v3 h3 T => ?_)
  obtain ⟨⟨R3, F3⟩, T3⟩ := T
  have C3 := C2.frC F3
  have e46 : h3 46 0 0 = h2 46 0 0 := by rw [F3 46 (by decide) 0]
  refine mw_istore (dT dLw_factor 26 rfl) (by decide) ?_
  refine mw_aload_n (dT dLw_factor 27 rfl) rfl (by decide) ?_
  refine mw_callVI mv_7_thrown ml_L_96 (by decide) (dT dLw_factor 28 rfl) (as := []) rfl rfl (s7_thrown (K := fun x h4 => x = h3 30 0 0 ∧ h4 = h3) ⟨rfl, rfl⟩) (fun v4 h4 T => ?_)
  obtain ⟨e4, rfl⟩ := T
  refine mw_iload (dT dLw_factor 29 rfl) rfl ?_
  have JJ : At (LwP n xs (k + 1)) ML_law 1611 [mR 70 0, mR 25 0, mR 30 0, mR 46 0, mI i, mI v, mI v3] [] h4 := At.forget [5, 6] (J h4 σ C3 R3)
  have E : h4 30 0 0 = v ∧ ((v = 1 ∨ v = 2) ∨ (v = 0 ∧ h4 46 0 0 = wr v3)) := by
    rcases T2 with ⟨a, b⟩ | ⟨a, b, c⟩ | ⟨a, b, c, d⟩
    · rcases T3 with ⟨a2, b2⟩ | ⟨a2, b2, c2⟩ | ⟨a2, b2, c2, d2⟩
      · exact ⟨b2.trans b.symm, Or.inl (Or.inl b)⟩
      · exact absurd a2 a
      · exact absurd a2 a
    · rcases T3 with ⟨a2, b2⟩ | ⟨a2, b2, c2⟩ | ⟨a2, b2, c2, d2⟩
      · exact absurd a a2
      · exact ⟨c2.trans c.symm, Or.inl (Or.inr c)⟩
      · exact absurd b2 b
    · rcases T3 with ⟨a2, b2⟩ | ⟨a2, b2, c2⟩ | ⟨a2, b2, c2, d2⟩
      · exact absurd a a2
      · exact absurd b b2
      · exact ⟨c2.trans c.symm, Or.inr ⟨c, by rw [e46, d, d2]⟩⟩
  rw [e4, E.1]
  refine mw_icmp_same 800 (dT dLw_factor 30 rfl) (by decide) ?_
  refine mw_iload (dT dLw_factor 33 rfl) rfl ?_
  refine mw_if_ne 817 (dT dLw_factor 34 rfl) (by decide) (by rcases E.2 with (z | z) | z <;> omega) (fun z => ?_) (fun z => ?_)
  · exact mw_goto 1611 (dT dLw_factor 44 rfl) (by decide) JJ
  · have e9 : h4 46 0 0 = wr v3 := by
      rcases E.2 with (y | y) | y
      · omega
      · omega
      · exact y.2
    refine mw_aload_n (dT dLw_factor 35 rfl) rfl (by decide) ?_
    refine mw_iconst (dT dLw_factor 36 rfl) ?_
    refine mw_laload ro_46 (dT dLw_factor 37 rfl) (by decide) ?_
    rw [e9]
    refine mw_iload (dT dLw_factor 38 rfl) rfl ?_
    refine mw_i2lW (dT dLw_factor 39 rfl) ?_
    refine mw_lif_same 817 (dT dLw_factor 40 rfl) (dT dLw_factor 41 rfl) (by decide) ?_
    exact mw_goto 1611 (dT dLw_factor 44 rfl) (by decide) JJ
/-- from the loop's head, with some rounds to come -/
theorem l_loop {n : Nat} {xs : Nat → Int32} (hn : n ≤ 3072) : ∀ (d k : Nat), k + d = 513 → ∀ (h : mH) (σ : Sg), CG h σ → RG h σ → At (LwP n xs k) ML_law 23 [mR 70 0, mR 25 0, mR 30 0, mR 46 0, mI (6 * (k : Int)), mU, mU] [] h := by
  intro d
  induction d with
  | zero =>
    intro k hkd h σ C R
    refine mw_iload (dT dLw_h 0 rfl) rfl ?_
    refine mw_aload_n (dT dLw_h 1 rfl) rfl (by decide) ?_
    refine mw_sclen (dT dLw_h 2 rfl) ?_
    refine mw_bipush (by decide) (dT dLw_h 3 rfl) ?_
    refine mw_isub (dT dLw_h 4 rfl) ?_
    refine mw_icmp_gt 1617 (dT dLw_h 5 rfl) (by decide) ⟨by omega, by omega⟩ (fun z => ?_) (fun z => absurd (show (n : Int) - 6 < 6 * (k : Int) by omega) z)
    refine mw_iconst (dT dLw_z 2 rfl) ?_
    exact mw_endL (by omega) (dT dLw_z 3 rfl)
  | succ d ih =>
    intro k hkd h σ C R
    refine mw_iload (dT dLw_h 0 rfl) rfl ?_
    refine mw_aload_n (dT dLw_h 1 rfl) rfl (by decide) ?_
    refine mw_sclen (dT dLw_h 2 rfl) ?_
    refine mw_bipush (by decide) (dT dLw_h 3 rfl) ?_
    refine mw_isub (dT dLw_h 4 rfl) ?_
    refine mw_icmp_gt 1617 (dT dLw_h 5 rfl) (by decide) ⟨by omega, by omega⟩ (fun z => ?_) (fun z => ?_)
    · refine mw_iconst (dT dLw_z 2 rfl) ?_
      exact mw_endL (by omega) (dT dLw_z 3 rfl)
    have hk : k < 600 := by omega
    have hij : 0 ≤ 6 * (k : Int) ∧ 6 * (k : Int) + 5 < n := by omega
    have J : ∀ h2 s2, CG h2 s2 → RG h2 s2 → At (LwP n xs (k + 1)) ML_law 1611 [mR 70 0, mR 25 0, mR 30 0, mR 46 0, mI (6 * (k : Int)), mU, mU] [] h2 := by
      intro h2 s2 C2 R2
      refine mw_iinc (dT dLw_z 0 rfl) rfl (by decide) ?_
      refine mw_goto 23 (dT dLw_z 1 rfl) (by decide) ?_
      have e : 6 * ((k + 1 : Nat) : Int) = 6 * (k : Int) + 6 := by omega
      have kk := ih (k + 1) (by omega) h2 s2 C2 R2
      rw [e] at kk
      exact kk
    refine mw_aload_n (dT dLw_h 6 rfl) rfl (by decide) ?_
    refine mw_iload (dT dLw_h 7 rfl) rfl ?_
    refine mw_sld (dT dLw_h 8 rfl) hn (by omega) ?_
    refine mw_bipush (by decide) (dT dLw_h 9 rfl) ?_
    refine mw_iand (dT dLw_h 10 rfl) ?_
    have hz : mInR (mAnd (xv xs (6 * (k : Int))) 63) := ⟨Int32.le_toInt _, Int32.toInt_lt _⟩
    generalize mAnd (xv xs (6 * (k : Int))) 63 = z9 at hz ⊢
    by_cases y0 : z9 = 0
    · subst y0
      exact mw_tableIn 232 (dT dLw_h 11 rfl) hz (by decide) (by decide) rfl (by decide) (lc_feed hk hn hij C R J)
    by_cases y1 : z9 = 1
    · subst y1
      exact mw_tableIn 305 (dT dLw_h 11 rfl) hz (by decide) (by decide) rfl (by decide) (lc_text hk hn hij C R J)
    by_cases y2 : z9 = 2
    · subst y2
      exact mw_tableIn 330 (dT dLw_h 11 rfl) hz (by decide) (by decide) rfl (by decide) (lc_fault hk hn hij C R J)
    by_cases y3 : z9 = 3
    · subst y3
      exact mw_tableIn 355 (dT dLw_h 11 rfl) hz (by decide) (by decide) rfl (by decide) (lc_named hk hn hij C R J)
    by_cases y4 : z9 = 4
    · subst y4
      exact mw_tableIn 380 (dT dLw_h 11 rfl) hz (by decide) (by decide) rfl (by decide) (lc_turn hk hn hij C R J)
    by_cases y5 : z9 = 5
    · subst y5
      exact mw_tableIn 405 (dT dLw_h 11 rfl) hz (by decide) (by decide) rfl (by decide) (lc_round hk hn hij C R J)
    by_cases y6 : z9 = 6
    · subst y6
      exact mw_tableIn 430 (dT dLw_h 11 rfl) hz (by decide) (by decide) rfl (by decide) (lc_rebase hk hn hij C R J)
    by_cases y7 : z9 = 7
    · subst y7
      exact mw_tableIn 443 (dT dLw_h 11 rfl) hz (by decide) (by decide) rfl (by decide) (lc_level hk hn hij C R J)
    by_cases y8 : z9 = 8
    · subst y8
      exact mw_tableIn 456 (dT dLw_h 11 rfl) hz (by decide) (by decide) rfl (by decide) (lc_relativity hk hn hij C R J)
    by_cases y9 : z9 = 9
    · subst y9
      exact mw_tableIn 505 (dT dLw_h 11 rfl) hz (by decide) (by decide) rfl (by decide) (lc_claims hk hn hij C R J)
    by_cases y10 : z9 = 10
    · subst y10
      exact mw_tableIn 542 (dT dLw_h 11 rfl) hz (by decide) (by decide) rfl (by decide) (lc_risk hk hn hij C R J)
    by_cases y11 : z9 = 11
    · subst y11
      exact mw_tableIn 603 (dT dLw_h 11 rfl) hz (by decide) (by decide) rfl (by decide) (lc_drop hk hn hij C R J)
    by_cases y12 : z9 = 12
    · subst y12
      exact mw_tableIn 628 (dT dLw_h 11 rfl) hz (by decide) (by decide) rfl (by decide) (lc_join hk hn hij C R J)
    by_cases y13 : z9 = 13
    · subst y13
      exact mw_tableIn 665 (dT dLw_h 11 rfl) hz (by decide) (by decide) rfl (by decide) (lc_cap hk hn hij C R J)
    by_cases y14 : z9 = 14
    · subst y14
      exact mw_tableIn 690 (dT dLw_h 11 rfl) hz (by decide) (by decide) rfl (by decide) (lc_trust hk hn hij C R J)
    by_cases y15 : z9 = 15
    · subst y15
      exact mw_tableIn 715 (dT dLw_h 11 rfl) hz (by decide) (by decide) rfl (by decide) (lc_fleet hk hn hij C R J)
    by_cases y16 : z9 = 16
    · subst y16
      exact mw_tableIn 752 (dT dLw_h 11 rfl) hz (by decide) (by decide) rfl (by decide) (lc_factor hk hn hij C R J)
    by_cases y17 : z9 = 17
    · subst y17
      exact mw_tableIn 820 (dT dLw_h 11 rfl) hz (by decide) (by decide) rfl (by decide) (lc_margin hk hn hij C R J)
    by_cases y18 : z9 = 18
    · subst y18
      exact mw_tableIn 870 (dT dLw_h 11 rfl) hz (by decide) (by decide) rfl (by decide) (lc_of hk hn hij C R J)
    by_cases y19 : z9 = 19
    · subst y19
      exact mw_tableIn 908 (dT dLw_h 11 rfl) hz (by decide) (by decide) rfl (by decide) (lc_all hk hn hij C R J)
    by_cases y20 : z9 = 20
    · subst y20
      exact mw_tableIn 934 (dT dLw_h 11 rfl) hz (by decide) (by decide) rfl (by decide) (lc_fitted hk hn hij C R J)
    by_cases y21 : z9 = 21
    · subst y21
      exact mw_tableIn 959 (dT dLw_h 11 rfl) hz (by decide) (by decide) rfl (by decide) (lc_unbalanced hk hn hij C R J)
    by_cases y22 : z9 = 22
    · subst y22
      exact mw_tableIn 972 (dT dLw_h 11 rfl) hz (by decide) (by decide) rfl (by decide) (lc_offBalance hk hn hij C R J)
    by_cases y23 : z9 = 23
    · subst y23
      exact mw_tableIn 985 (dT dLw_h 11 rfl) hz (by decide) (by decide) rfl (by decide) (lc_changes hk hn hij C R J)
    by_cases y24 : z9 = 24
    · subst y24
      exact mw_tableIn 1010 (dT dLw_h 11 rfl) hz (by decide) (by decide) rfl (by decide) (lc_share hk hn hij C R J)
    by_cases y25 : z9 = 25
    · subst y25
      exact mw_tableIn 1047 (dT dLw_h 11 rfl) hz (by decide) (by decide) rfl (by decide) (lc_atEnd hk hn hij C R J)
    by_cases y26 : z9 = 26
    · subst y26
      exact mw_tableIn 1084 (dT dLw_h 11 rfl) hz (by decide) (by decide) rfl (by decide) (lc_mostOff hk hn hij C R J)
    by_cases y27 : z9 = 27
    · subst y27
      exact mw_tableIn 1097 (dT dLw_h 11 rfl) hz (by decide) (by decide) rfl (by decide) (lc_step hk hn hij C R J)
    by_cases y28 : z9 = 28
    · subst y28
      exact mw_tableIn 1135 (dT dLw_h 11 rfl) hz (by decide) (by decide) rfl (by decide) (lc_swing hk hn hij C R J)
    by_cases y29 : z9 = 29
    · subst y29
      exact mw_tableIn 1184 (dT dLw_h 11 rfl) hz (by decide) (by decide) rfl (by decide) (lc_ratio hk hn hij C R J)
    by_cases y30 : z9 = 30
    · subst y30
      exact mw_tableIn 1222 (dT dLw_h 11 rfl) hz (by decide) (by decide) rfl (by decide) (lc_worst hk hn hij C R J)
    by_cases y31 : z9 = 31
    · subst y31
      exact mw_tableIn 1235 (dT dLw_h 11 rfl) hz (by decide) (by decide) rfl (by decide) (lc_hardest hk hn hij C R J)
    by_cases y32 : z9 = 32
    · subst y32
      exact mw_tableIn 1260 (dT dLw_h 11 rfl) hz (by decide) (by decide) rfl (by decide) (lc_ranked hk hn hij C R J)
    by_cases y33 : z9 = 33
    · subst y33
      exact mw_tableIn 1285 (dT dLw_h 11 rfl) hz (by decide) (by decide) rfl (by decide) (lc_leastCap hk hn hij C R J)
    by_cases y34 : z9 = 34
    · subst y34
      exact mw_tableIn 1298 (dT dLw_h 11 rfl) hz (by decide) (by decide) rfl (by decide) (lc_withoutFactor hk hn hij C R J)
    by_cases y35 : z9 = 35
    · subst y35
      exact mw_tableIn 1336 (dT dLw_h 11 rfl) hz (by decide) (by decide) rfl (by decide) (lc_bestJoin hk hn hij C R J)
    by_cases y36 : z9 = 36
    · subst y36
      exact mw_tableIn 1373 (dT dLw_h 11 rfl) hz (by decide) (by decide) rfl (by decide) (lc_withoutRisk hk hn hij C R J)
    by_cases y37 : z9 = 37
    · subst y37
      exact mw_tableIn 1410 (dT dLw_h 11 rfl) hz (by decide) (by decide) rfl (by decide) (lc_quote hk hn hij C R J)
    by_cases y38 : z9 = 38
    · subst y38
      exact mw_tableIn 1448 (dT dLw_h 11 rfl) hz (by decide) (by decide) rfl (by decide) (lc_kinds hk hn hij C R J)
    by_cases y39 : z9 = 39
    · subst y39
      exact mw_tableIn 1473 (dT dLw_h 11 rfl) hz (by decide) (by decide) rfl (by decide) (lc_chance hk hn hij C R J)
    by_cases y40 : z9 = 40
    · subst y40
      exact mw_tableIn 1547 (dT dLw_h 11 rfl) hz (by decide) (by decide) rfl (by decide) (lc_undo hk hn hij C R J)
    by_cases y41 : z9 = 41
    · subst y41
      exact mw_tableIn 1560 (dT dLw_h 11 rfl) hz (by decide) (by decide) rfl (by decide) (lc_keep hk hn hij C R J)
    by_cases y42 : z9 = 42
    · subst y42
      exact mw_tableIn 1573 (dT dLw_h 11 rfl) hz (by decide) (by decide) rfl (by decide) (lc_back hk hn hij C R J)
    by_cases y43 : z9 = 43
    · subst y43
      exact mw_tableIn 1586 (dT dLw_h 11 rfl) hz (by decide) (by decide) rfl (by decide) (lc_count hk hn hij C R J)
    refine mw_tableOut 1611 (dT dLw_h 11 rfl) hz (by omega) (by decide) ?_
    exact LwP.bump hk (J h σ C R)
