/-! the class: the other calls that change something -/
section OFF2
variable {h h2 : mH} {σ : Sg}
theorem m_relativity (C : CG h σ) {K : Int → mH → Prop} {x1 x2 x3 : Int} (hx : mInR x1) (hx2 : mInR x2) (hx3 : mInR x3) (k1 : VLv σ x1 x2 → lo (gP σ) x1 ≤ x3 → x3 ≤ hi (gP σ) x1 → ∀ h2, CG h2 (toS (pus σ) (reS (gS σ) x1 x2 x3)) → FrM h h2 → K (gS σ (280 + 6 * x1 + x2)) h2) (k0 : ¬ (VLv σ x1 x2 ∧ lo (gP σ) x1 ≤ x3 ∧ x3 ≤ hi (gP σ) x1) → ∀ h2, CG h2 σ → FrM h h2 → K (-1) h2) : OkI M6_relativity [mR 25 0, mI x1, mI x2, mI x3] h K := by
  have h4 := C.1.n4
  refine s6_relativity (k3_hasLevel C.1 hx hx2 (fun a b c d => ⟨by decide, fun w => absurd w (by decide), fun _ => ⟨by omega, by omega, ?_⟩⟩) (fun z => ⟨by decide, fun _ => k0 (fun w => z w.1) h C (FrM.rf h), fun w => absurd rfl w⟩))
  have hb := C.1.pf a b
  rw [C.1.lo a b, C.1.hi a b]
  refine k_within hx3 (by omega) (by omega) (fun e f => ⟨by decide, fun _ => m_push C (fun h2 C2 F2 => k_slot (by omega) (by omega) ⟨by omega, Bk.setClass C2.2.1 a b c d ⟨e, f⟩ (fun g B3 => ?_)⟩), fun w => absurd w (by decide)⟩) (fun z => ⟨by decide, fun w => absurd rfl w, fun _ => k0 (fun w => z w.2) h C (FrM.rf h)⟩)
  rw [C2.2.1.l a b c d]
  have F3 : FrB 0 h2 (rs h2 6 0 g) := frB_rs (by decide)
  exact k1 ⟨⟨a, b⟩, c, d⟩ e f _ (C2.bk F3.y B3) (F2.tr F3.mm)
theorem m_claims (C : CG h σ) {K : Int → mH → Prop} {x1 x2 : Int} (hx : mInR x1) (hx2 : mInR x2) (k1 : VR σ x1 → 0 ≤ x2 → x2 ≤ 99999 → ∀ h2, CG h2 (toS (pus σ) (up (gS σ) (7 * x1 + 1) x2)) → FrM h h2 → K (gS σ (7 * x1 + 1)) h2) (k0 : ¬ (VR σ x1 ∧ 0 ≤ x2 ∧ x2 ≤ 99999) → ∀ h2, CG h2 σ → FrM h h2 → K (-1) h2) : OkI M6_claims [mR 25 0, mI x1, mI x2] h K := by
  have hm := C.2.1.m40
  refine s6_claims (k0_hasRisk C.2.1 hx (fun a b => ⟨by decide, fun w => absurd w (by decide), fun _ => k_within hx2 (by decide) (by decide) (fun e f => ⟨by decide, fun _ => m_push C (fun h2 C2 F2 => ⟨by omega, by omega, ?_⟩), fun w => absurd w (by decide)⟩) (fun z => ⟨by decide, fun w => absurd rfl w, fun _ => k0 (fun w => z w.2) h C (FrM.rf h)⟩)⟩) (fun z => ⟨by decide, fun _ => k0 (fun w => z w.1) h C (FrM.rf h), fun w => absurd rfl w⟩))
  rintro _ rfl
  rw [mSet_rs, (C2.2.1.rk a b).2.1]
  have F3 : FrB 0 h2 (rs h2 3 0 (up (h2 3 0) x1 x2)) := frB_rs (by decide)
  exact k1 ⟨a, b⟩ e f _ (C2.bk F3.y (C2.2.1.claim a b ⟨e, f⟩)) (F2.tr F3.mm)
theorem m_risk (C : CG h σ) {K : Int → mH → Prop} {x1 x2 x3 x4 : Int} (hx : mInR x1) (hx2 : mInR x2) (hx3 : mInR x3) (hx4 : mInR x4)
    (k1 : (1 ≤ x1 ∧ x1 ≤ 99) → (0 ≤ x2 ∧ x2 ≤ 99999) → (1 ≤ x3 ∧ x3 ≤ 99999) → vld (gP σ) x4 → gS σ 310 < 40 → ∀ h2, CG h2 (toS (pus σ) (adS (gS σ) x1 x2 x3 x4)) → FrM h h2 → K (gS σ 310) h2)
    (k2 : (1 ≤ x1 ∧ x1 ≤ 99) → (0 ≤ x2 ∧ x2 ≤ 99999) → (1 ≤ x3 ∧ x3 ≤ 99999) → vld (gP σ) x4 → gS σ 310 = 40 → ∀ h2, CG h2 σ → FrM h h2 → K (-2) h2)
    (k0 : ¬ ((1 ≤ x1 ∧ x1 ≤ 99) ∧ (0 ≤ x2 ∧ x2 ≤ 99999) ∧ (1 ≤ x3 ∧ x3 ≤ 99999) ∧ vld (gP σ) x4) → ∀ h2, CG h2 σ → FrM h h2 → K (-1) h2) : OkI M6_risk [mR 25 0, mI x1, mI x2, mI x3, mI x4] h K := by
  have hm := C.2.1.m40
  have no : ¬ ((1 ≤ x1 ∧ x1 ≤ 99) ∧ (0 ≤ x2 ∧ x2 ≤ 99999) ∧ (1 ≤ x3 ∧ x3 ≤ 99999) ∧ vld (gP σ) x4) → K (-1) h := fun z => k0 z h C (FrM.rf h)
  refine s6_risk (k_within hx (by decide) (by decide) (fun a1 a2 => ⟨by decide, fun w => absurd w (by decide), fun _ => k_within hx2 (by decide) (by decide) (fun b1 b2 => ⟨by decide, fun w => absurd w (by decide), fun _ => k_within hx3 (by decide) (by decide) (fun c1 c2 => ⟨by decide, fun w => absurd w (by decide), fun _ => k3_hasLevels C.1 hx4 (fun hv => ⟨by decide, fun _ => ?_, fun w => absurd w (by decide)⟩) (fun hv => ⟨by decide, fun w => absurd rfl w, fun _ => no (fun w => hv w.2.2.2)⟩)⟩) (fun z => ⟨by decide, fun _ => no (fun w => z w.2.2.1), fun w => absurd rfl w⟩)⟩) (fun z => ⟨by decide, fun _ => no (fun w => z w.2.1), fun w => absurd rfl w⟩)⟩) (fun z => ⟨by decide, fun _ => no (fun w => z w.1), fun w => absurd rfl w⟩))
  rw [C.2.1.m]
  refine ⟨by omega, fun z => m_push C (fun h2 C2 F2 => k0_addRisk C2.2.1 z ⟨a1, a2⟩ ⟨b1, b2⟩ ⟨c1, c2⟩ hv (fun h3 B3 F3 => ?_)), fun z => k2 ⟨a1, a2⟩ ⟨b1, b2⟩ ⟨c1, c2⟩ hv (by omega) h C (FrM.rf h)⟩
  rw [B3.m, show adS (gS (pus σ)) x1 x2 x3 x4 310 = gS σ 310 + 1 from by unfold adS; rw [if_pos rfl]; rfl, show gS σ 310 + 1 - 1 = gS σ 310 by omega]
  exact k1 ⟨a1, a2⟩ ⟨b1, b2⟩ ⟨c1, c2⟩ hv z h3 (C2.bk F3.y B3) (F2.tr F3.mm)
theorem m_join (C : CG h σ) {K : Int → mH → Prop} {x1 x2 : Int} (hx : mInR x1) (hx2 : mInR x2) (k1 : VLv σ x1 x2 → x2 + 1 < lv (gP σ) x1 → ∀ h2, CG h2 (toS (pus σ) (joS (gS σ) x1 x2)) → FrM h h2 → K (if jb (gS σ (304 + x1)) x2 then 0 else 1) h2) (k0 : ¬ (VLv σ x1 x2 ∧ x2 + 1 < lv (gP σ) x1) → ∀ h2, CG h2 σ → FrM h h2 → K (-1) h2) : OkI M6_join [mR 25 0, mI x1, mI x2] h K := by
  have h4 := C.1.n4
  refine s6_join (k3_hasLevel C.1 hx hx2 (fun a b c d => ⟨by decide, fun w => absurd w (by decide), fun _ => ⟨by omega, ?_⟩⟩) (fun z => ⟨by decide, fun _ => k0 (fun w => z w.1) h C (FrM.rf h), fun w => absurd rfl w⟩))
  have hb := C.1.pf a b
  rw [C.1.lv a b]
  refine ⟨by omega, fun z => m_push C (fun h2 C2 F2 => ?_), fun z => k0 (fun w => by have := w.2; omega) h C (FrM.rf h)⟩
  have hl : x2 + 1 < lv (gP σ) x1 := by omega
  refine k0_isJoined C2.2.1.j h4.2 a b c (by omega) (fun e => ⟨by decide, fun w => absurd w (by decide), fun _ => k0_part C2.2.1 a b c hl e (fun h3 B3 F3 => ?_)⟩) (fun e => ⟨by decide, fun _ => k0_joinToNext C2.2.1 a b c hl e (fun h3 B3 F3 => ?_), fun w => absurd rfl w⟩)
  · have e2 : jb (gS σ (304 + x1)) x2 = true := e
    have kk := k1 ⟨⟨a, b⟩, c, d⟩ hl h3 (C2.bk F3.y B3) (F2.tr F3.mm)
    rw [if_pos e2] at kk
    exact kk
  · have e2 : jb (gS σ (304 + x1)) x2 = false := e
    have kk := k1 ⟨⟨a, b⟩, c, d⟩ hl h3 (C2.bk F3.y B3) (F2.tr F3.mm)
    rw [e2] at kk
    exact kk
theorem m_cap (C : CG h σ) {K : Int → mH → Prop} {x1 : Int} (hx : mInR x1) (k1 : 0 ≤ x1 → x1 ≤ 999 → ∀ h2, CG h2 (toS (pus σ) (up (gS σ) 309 x1)) → FrM h h2 → K (gS σ 309) h2) (k0 : ¬ (0 ≤ x1 ∧ x1 ≤ 999) → ∀ h2, CG h2 σ → FrM h h2 → K (-1) h2) : OkI M6_cap [mR 25 0, mI x1] h K := by
  refine s6_cap (k_within hx (by decide) (by decide) (fun a b => ⟨by decide, fun _ => m_push C (fun h2 C2 F2 => ?_), fun w => absurd w (by decide)⟩) (fun z => ⟨by decide, fun w => absurd rfl w, fun _ => k0 z h C (FrM.rf h)⟩))
  rintro _ rfl
  rw [mSet_rs, C2.2.1.1.2.2.1]
  have F3 : FrB 0 h2 (rs h2 1 0 (up (h2 1 0) 2 x1)) := frB_rs (by decide)
  exact k1 a b _ (C2.bk F3.y (C2.2.1.fld (k := 309) (c := 2) (by decide) (C2.2.1.wf.cap C2.2.1.wp ⟨a, b⟩))) (F2.tr F3.mm)
theorem m_trust (C : CG h σ) {K : Int → mH → Prop} {x1 : Int} (hx : mInR x1) (k1 : 0 ≤ x1 → x1 ≤ 999 → ∀ h2, CG h2 (toS (pus σ) (up (gS σ) 311 x1)) → FrM h h2 → K (gS σ 311) h2) (k0 : ¬ (0 ≤ x1 ∧ x1 ≤ 999) → ∀ h2, CG h2 σ → FrM h h2 → K (-1) h2) : OkI M6_trust [mR 25 0, mI x1] h K := by
  refine s6_trust (k_within hx (by decide) (by decide) (fun a b => ⟨by decide, fun _ => m_push C (fun h2 C2 F2 => ?_), fun w => absurd w (by decide)⟩) (fun z => ⟨by decide, fun w => absurd rfl w, fun _ => k0 z h C (FrM.rf h)⟩))
  rintro _ rfl
  rw [mSet_rs, C2.2.1.1.2.2.2.1]
  have F3 : FrB 0 h2 (rs h2 1 0 (up (h2 1 0) 3 x1)) := frB_rs (by decide)
  exact k1 a b _ (C2.bk F3.y (C2.2.1.fld (k := 311) (c := 3) (by decide) (C2.2.1.wf.trust C2.2.1.wp ⟨a, b⟩))) (F2.tr F3.mm)
theorem m_fleet (C : CG h σ) {K : Int → mH → Prop} {x1 x2 : Int} (hx : mInR x1) (hx2 : mInR x2) (k1 : (1 ≤ x1 ∧ x1 ≤ 99) → (0 ≤ x2 ∧ x2 ≤ 500) → ∀ h2, CG h2 (toS (pus σ) (flS (gS σ) x1 x2)) → FrM h h2 → K (sm (fun r => if gS σ (7 * r + 0) < x1 then 0 else 1) (gS σ 310)) h2) (k0 : ¬ ((1 ≤ x1 ∧ x1 ≤ 99) ∧ 0 ≤ x2 ∧ x2 ≤ 500) → ∀ h2, CG h2 σ → FrM h h2 → K (-1) h2) : OkI M6_fleet [mR 25 0, mI x1, mI x2] h K := by
  refine s6_fleet (k_within hx (by decide) (by decide) (fun a b => ⟨by decide, fun w => absurd w (by decide), fun _ => k_within hx2 (by decide) (by decide) (fun e f => ⟨by decide, fun _ => m_push C (fun h2 C2 F2 => ?_), fun w => absurd w (by decide)⟩) (fun z => ⟨by decide, fun w => absurd rfl w, fun _ => k0 (fun w => z w.2) h C (FrM.rf h)⟩)⟩) (fun z => ⟨by decide, fun _ => k0 (fun w => z w.1) h C (FrM.rf h), fun w => absurd rfl w⟩))
  rintro _ rfl _ rfl
  have B1 : Bk (rs h2 1 0 (up (h2 1 0) 4 x1)) 0 (gP σ) (up (gS σ) 312 x1) := C2.2.1.fld (k := 312) (c := 4) (by decide) (C2.2.1.wf.size C2.2.1.wp ⟨a, b⟩)
  have B2 := B1.fld (k := 313) (c := 5) (v := x2) (by decide) (B1.wf.off B1.wp ⟨e, f⟩)
  rw [mSet_rs, mSet_rs]
  have F3 : FrB 0 h2 (rs (rs h2 1 0 (up (h2 1 0) 4 x1)) 1 0 (up (rs h2 1 0 (up (h2 1 0) 4 x1) 1 0) 5 x2)) := (frB_rs (by decide)).tr (frB_rs (by decide))
  have hm := C.2.1.m40
  refine k0_countFleets B2 ?_
  have kk := k1 ⟨a, b⟩ ⟨e, f⟩ _ (C2.bk F3.y B2) (F2.tr F3.mm)
  rw [up_ne (k := 313) (j := 310) (by decide), up_ne (k := 312) (j := 310) (by decide), up_ne (k := 313) (j := 312) (by decide), up_same]
  have es : sm (fun r => if up (up (gS σ) 312 x1) 313 x2 (7 * r + 0) < x1 then (0 : Int) else 1) (gS σ 310) = sm (fun r => if gS σ (7 * r + 0) < x1 then 0 else 1) (gS σ 310) := sm_congr (fun r a b => by rw [up_ne (by omega), up_ne (by omega)])
  rw [es]
  exact kk
theorem m_undo (C : CG h σ) {K : Int → mH → Prop} (k1 : 0 < (gU σ).1 → ∀ h2, CG h2 (toU (toS σ ((gU σ).2 ((gU σ).1 - 1))) ((gU σ).1 - 1)) → FrM h h2 → K ((gU σ).1 - 1) h2) (k0 : (gU σ).1 = 0 → ∀ h2, CG h2 σ → FrM h h2 → K (-1) h2) : OkI M6_undo [mR 25 0] h K := by
  obtain ⟨c1, c2, ⟨i1, i2, i3⟩, ⟨u0, u1, u2, u3⟩, ⟨t1, t2, t3⟩, c6⟩ := id C
  refine s6_undo ?_
  rw [u1]
  refine ⟨by omega, fun z => ?_, fun z => k0 (by omega) h C (FrM.rf h)⟩
  rintro _ rfl
  rw [mSet_rs, rs_same, up_same]
  refine s6_historyIndex ?_
  rw [rs_same, up_ne (by decide), Int.tmod_eq_emod_of_nonneg (by omega)]
  refine ⟨by omega, by omega, k0_copyFrom (by omega) (fun h2 Bc F => ?_)⟩
  have f25 : h2 25 0 = up (h 25 0) 15 ((gU σ).1 - 1) := by rw [F 25 0 (by omega), rs_same]
  have Fz : ∀ r j, ¬ (1 ≤ r ∧ r ≤ 6 ∧ j = 0) → r ≠ 25 → h2 r j = h r j := fun r j z w => by rw [F r j z, rs_r w]
  have bkO : ∀ {c : Int} {t : Int → Int}, c ≠ 0 → Bk h c (gP σ) t → Bk h2 c (gP σ) t := fun hc B => B.fr (fun r a d => Fz r _ (by omega) (by omega))
  rw [show h2 25 0 15 = (gU σ).1 - 1 from by rw [f25, up_same]]
  have hb := u3 ((gU σ).1 - 1) (by omega) (by omega)
  have hb2 : Bk (rs h 25 0 (up (h 25 0) 15 ((gU σ).1 - 1))) (4 + (h 25 0 14 + ((gU σ).1 - 1)) % 20) (gP σ) ((gU σ).2 ((gU σ).1 - 1)) := hb.fr (fun r a d => rs_r (by omega))
  refine k1 (by omega) h2 ⟨c1.fr (fun r a d => Fz r 0 (by omega) (by omega)), Bc _ _ hb2, ?_, ?_, ?_, ?_⟩ (fun r hr i => Fz r i (by omega) (by omega))
  · unfold CI
    rw [f25, up_ne (by decide)]
    exact ⟨i1, i2, fun z => bkO (by decide) (i3 z)⟩
  · unfold CU
    rw [f25, up_ne (by decide), up_same]
    refine ⟨u0, rfl, by show 0 ≤ (gU σ).1 - 1 ∧ (gU σ).1 - 1 ≤ 20; omega, fun q a d => bkO (by omega) (u3 q a ?_)⟩
    have d2 : q < (gU σ).1 - 1 := d
    omega
  · unfold CT
    rw [f25, up_ne (by decide), Fz 26 0 (by omega) (by decide)]
    exact ⟨t1, t2, t3⟩
  · unfold CF
    rw [f25, up_ne (by decide), up_ne (by decide)]
    exact c6
theorem m_keep (C : CG h σ) {K : Int → mH → Prop} (k : ∀ h2, CG h2 (toI σ 1 (gS σ)) → FrM h h2 → K (gS σ 310) h2) : OkI M6_keep [mR 25 0] h K := by
  obtain ⟨c1, c2, ⟨i1, i2, i3⟩, ⟨u0, u1, u2, u3⟩, ⟨t1, t2, t3⟩, c6⟩ := id C
  refine s6_keep (k0_copyFrom (by decide) (fun h2 Bc F => ?_))
  rintro _ rfl
  rw [mSet_rs]
  have f25 : h2 25 0 = h 25 0 := F 25 0 (by omega)
  have Fz : ∀ r j, ¬ (1 ≤ r ∧ r ≤ 6 ∧ j = 3) → r ≠ 25 → rs h2 25 0 (up (h2 25 0) 12 1) r j = h r j := fun r j z w => by rw [rs_r w]; exact F r j z
  have bkO : ∀ {c : Int} {t : Int → Int}, c ≠ 3 → Bk h c (gP σ) t → Bk (rs h2 25 0 (up (h2 25 0) 12 1)) c (gP σ) t := fun hc B => B.fr (fun r a d => Fz r _ (by omega) (by omega))
  have B0 := bkO (by decide) c2
  have g25 : rs h2 25 0 (up (h2 25 0) 12 1) 25 0 = up (h 25 0) 12 1 := by rw [rs_same, f25]
  rw [B0.m]
  refine k _ ⟨c1.fr (fun r a d => Fz r 0 (by omega) (by omega)), B0, ?_, ?_, ?_, ?_⟩ (fun r hr i => Fz r i (by omega) (by omega))
  · unfold CI
    rw [g25, up_same]
    exact ⟨rfl, Or.inr rfl, fun _ => (Bc _ _ c2).fr (fun r a d => rs_r (by omega))⟩
  · unfold CU
    rw [g25, up_ne (by decide), up_ne (by decide)]
    exact ⟨u0, u1, u2, fun q a d => bkO (by omega) (u3 q a d)⟩
  · unfold CT
    rw [g25, up_ne (by decide), Fz 26 0 (by omega) (by decide)]
    exact ⟨t1, t2, t3⟩
  · unfold CF
    rw [g25, up_ne (by decide), up_ne (by decide)]
    exact c6
theorem m_back (C : CG h σ) {K : Int → mH → Prop} (k1 : (gI σ).1 = 1 → ∀ h2, CG h2 (toU (toS σ (gI σ).2) 0) → FrM h h2 → K ((gI σ).2 310) h2) (k0 : (gI σ).1 = 0 → ∀ h2, CG h2 σ → FrM h h2 → K (-1) h2) : OkI M6_back [mR 25 0] h K := by
  obtain ⟨c1, c2, ⟨i1, i2, i3⟩, ⟨u0, u1, u2, u3⟩, ⟨t1, t2, t3⟩, c6⟩ := id C
  refine s6_back ?_
  rw [i1]
  refine ⟨by omega, fun z => k0_copyFrom (by decide) (fun h2 Bc F => ?_), fun z => k0 z h C (FrM.rf h)⟩
  rintro _ rfl
  rw [mSet_rs]
  have hi : (gI σ).1 = 1 := by omega
  have f25 : h2 25 0 = h 25 0 := F 25 0 (by omega)
  have Fz : ∀ r j, ¬ (1 ≤ r ∧ r ≤ 6 ∧ j = 0) → r ≠ 25 → rs h2 25 0 (up (h2 25 0) 15 0) r j = h r j := fun r j z w => by rw [rs_r w]; exact F r j z
  have bkO : ∀ {c : Int} {t : Int → Int}, c ≠ 0 → Bk h c (gP σ) t → Bk (rs h2 25 0 (up (h2 25 0) 15 0)) c (gP σ) t := fun hc B => B.fr (fun r a d => Fz r _ (by omega) (by omega))
  have B0 : Bk (rs h2 25 0 (up (h2 25 0) 15 0)) 0 (gP σ) (gI σ).2 := (Bc _ _ (i3 hi)).fr (fun r a d => rs_r (by omega))
  have g25 : rs h2 25 0 (up (h2 25 0) 15 0) 25 0 = up (h 25 0) 15 0 := by rw [rs_same, f25]
  rw [B0.m]
  refine k1 hi _ ⟨c1.fr (fun r a d => Fz r 0 (by omega) (by omega)), B0, ?_, ?_, ?_, ?_⟩ (fun r hr i => Fz r i (by omega) (by omega))
  · unfold CI
    rw [g25, up_ne (by decide)]
    exact ⟨i1, i2, fun z => bkO (by decide) (i3 z)⟩
  · unfold CU
    rw [g25, up_ne (by decide), up_same]
    exact ⟨u0, rfl, by show (0 : Int) ≤ 0 ∧ (0 : Int) ≤ 20; decide, fun q a d => by have d2 : q < 0 := d; omega⟩
  · unfold CT
    rw [g25, up_ne (by decide), Fz 26 0 (by omega) (by decide)]
    exact ⟨t1, t2, t3⟩
  · unfold CF
    rw [g25, up_ne (by decide), up_ne (by decide)]
    exact c6
end OFF2
