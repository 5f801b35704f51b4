/-! the class: more questions -/
section OFF4
variable {h h2 : mH} {σ : Sg}
theorem m_step (C : CG h σ) {K : Int → mH → Prop} {x1 x2 : Int} (hx : mInR x1) (hx2 : mInR x2) (k : ∀ h2, CG h2 σ → FrM h h2 → K (q_step σ x1 x2) h2) : OkJ M6_step [mR 25 0, mI x1, mI x2] h K := by
  have P := C.1
  have B := C.2.1
  have h4 := P.n4
  have hm := B.m40
  have kk := k h C (FrM.rf h)
  unfold q_step at kk
  refine s6_step (k0_hasRisk B hx (fun a b => ⟨by decide, fun w => absurd w (by decide), fun _ => ?_⟩) (fun z => ⟨by decide, fun _ => ?_, fun w => absurd rfl w⟩))
  · rw [P.n]
    refine k_within hx2 (by decide) (by omega) (fun e f => ⟨by decide, fun _ => ⟨by omega, by omega, ?_⟩, fun w => absurd w (by decide)⟩) (fun z => ⟨by decide, fun w => absurd rfl w, fun _ => ?_⟩)
    · rw [if_pos ⟨⟨a, b⟩, e, f⟩] at kk
      have hr := B.rk a b
      have hw := B.wf.2.1 x1 a b
      have he := hw.1
      have hpk := pkL_bd B.wp B.wf a b
      rw [hr.1, hr.2.2.2]
      refine k2_behind B (by omega) ⟨e, f⟩ (by omega) (fun g c d => ?_) ?_
      · rw [pkL_dg B.wp B.wf a b c (by omega)]
        exact (hw.2.2.2 g c (by omega)).2.1 d
      · rw [bh_lev (g2 := dg (pkL (gS σ) x1)) (g := fun f => gS σ (7 * x1 + 3 + f)) (fun g c d => pkL_dg B.wp B.wf a b c (by omega))]
        exact kk
    · rw [if_neg (fun w => z w.2)] at kk; exact kk
  · rw [if_neg (fun w => z w.1)] at kk; exact kk
theorem m_ratio (C : CG h σ) {K : Int → mH → Prop} {x1 x2 : Int} (hx : mInR x1) (hx2 : mInR x2) (k : ∀ h2, CG h2 σ → FrM h h2 → K (q_ratio σ x1 x2) h2) : OkJ M6_ratio [mR 25 0, mI x1, mI x2] h K := by
  have P := C.1
  have B := C.2.1
  have h4 := P.n4
  have hP := csP_bd B.wp B.wf x1 x2
  have hC := csC_bd B.wf x1 x2
  refine s6_ratio (k3_hasLevel P hx hx2 (fun a b c d => ⟨by decide, fun _ => k2_measure P B a b (fun h2 G D F => ?_), fun w => absurd w (by decide)⟩) (fun z => ⟨by decide, fun w => absurd rfl w, fun _ => ?_⟩))
  · have kk := k h2 (C.q F.q) F.q.mm
    unfold q_ratio at kk
    rw [if_pos ⟨⟨a, b⟩, c, d⟩] at kk
    have hb := P.pf a b
    have hf := fs_le (s := gS σ) (f := x1) c
    have hg := G _ hf.1 (by omega) (fs_fs (gS σ) x1 x2)
    have e1 : csC (gS σ) x1 (fs (gS σ) x1 x2) = csC (gS σ) x1 x2 := cs_fs _ _ _ _
    have e2 : csP (gP σ) (gS σ) x1 (fs (gS σ) x1 x2) = csP (gP σ) (gS σ) x1 x2 := cs_fs _ _ _ _
    refine k0_firstOf (F.bk B).j h4.2 a b c (by omega) (k_slot (by omega) (by omega) ⟨by omega, ?_⟩)
    rw [hg.1, hg.2.1, e1, e2]
    refine ⟨by omega, fun z => ⟨by omega, by omega, ?_⟩, fun z => ?_⟩
    · rw [if_neg (by omega)] at kk; exact kk
    · rw [if_pos (by omega)] at kk; exact kk
  · have kk := k h C (FrM.rf h)
    unfold q_ratio at kk
    rw [if_neg z] at kk; exact kk
theorem m_atEnd (C : CG h σ) {K : Int → mH → Prop} {x1 x2 : Int} (hx : mInR x1) (hx2 : mInR x2) (k : ∀ h2, CG h2 σ → FrM h h2 → K (q_atEnd σ x1 x2) h2) : OkI M6_atEnd [mR 25 0, mI x1, mI x2] h K := by
  have P := C.1
  have B := C.2.1
  have h4 := P.n4
  have kk := k h C (FrM.rf h)
  unfold q_atEnd at kk
  refine s6_atEnd (k3_hasFactor P hx (fun a b => ⟨by decide, fun w => absurd w (by decide), fun _ => k_within hx2 (by decide) (by decide) (fun e f => ⟨by decide, fun _ => ?_, fun w => absurd w (by decide)⟩) (fun z => ⟨by decide, fun w => absurd rfl w, fun _ => ?_⟩)⟩) (fun z => ⟨by decide, fun _ => ?_, fun w => absurd rfl w⟩))
  · rw [if_pos ⟨⟨a, b⟩, e, f⟩] at kk
    unfold aeF at kk
    have hb := P.pf a b
    rw [P.lo a b, P.hi a b]
    refine ⟨hx2, fun z => ⟨by omega, k2_countAt P B a b (by omega) ?_⟩, fun z => ⟨by omega, k2_countAt P B a b (by omega) ?_⟩⟩
    · rw [if_neg z] at kk; exact kk
    · rw [if_pos z] at kk; exact kk
  · rw [if_neg (fun w => z w.2)] at kk; exact kk
  · rw [if_neg (fun w => z w.1)] at kk; exact kk
theorem m_all (C : CG h σ) {K : Int → mH → Prop} {x1 : Int} (hx : mInR x1) (k : ∀ h2, CG h2 σ → FrM h h2 → K (q_all σ x1) h2) : OkJ M6_all [mR 25 0, mI x1] h K := by
  have P := C.1
  have B := C.2.1
  have kk := k h C (FrM.rf h)
  have k2 := fun h2 (F : FrQ h h2) => k h2 (C.q F) F.mm
  unfold q_all at kk k2
  refine s6_all ⟨hx, fun w => k0_sumC B ?_, fun w => k2_sumPaid P B (fun h2 D F => ?_), fun w => k0_sumO B ?_, fun w => k2_sumMisfit P B (fun h2 F => ?_), fun w => k0_sumE B ?_, fun w => k1_settle P B (fun h2 D Cc F => k1_sumCapped (F.bk (by decide) B) Cc ?_), fun w => ?_⟩
  · rw [if_pos w] at kk; exact kk
  · have k3 := k2 h2 F.q
    rw [if_neg (by omega), if_pos w] at k3; exact k3
  · rw [if_neg (by omega), if_neg (by omega), if_pos w] at kk; exact kk
  · have k3 := k2 h2 F.q
    rw [if_neg (by omega), if_neg (by omega), if_neg (by omega), if_pos w] at k3; exact k3
  · rw [if_neg (by omega), if_neg (by omega), if_neg (by omega), if_neg (by omega), if_pos w] at kk; exact kk
  · have k3 := k2 h2 F
    rw [if_neg (by omega), if_neg (by omega), if_neg (by omega), if_neg (by omega), if_neg (by omega), if_pos w] at k3; exact k3
  · rw [if_neg (by omega), if_neg (by omega), if_neg (by omega), if_neg (by omega), if_neg (by omega), if_neg (by omega)] at kk; exact kk
theorem m_fitted (C : CG h σ) {K : Int → mH → Prop} {x1 : Int} (hx : mInR x1) (k : ∀ h2, CG h2 σ → FrM h h2 → K (q_fitted σ x1) h2) : OkI M6_fitted [mR 25 0, mI x1] h K := by
  have P := C.1
  have B := C.2.1
  refine s6_fitted (k_within hx (by decide) (by decide) (fun a b => ⟨by decide, fun _ => k0_copyFrom (by decide) (fun h2 Bc F => k2_fit (F.y.pl P) (Bc _ _ B) ⟨a, b⟩ (fun h3 F3 => ?_)), fun w => absurd w (by decide)⟩) (fun z => ⟨by decide, fun w => absurd rfl w, fun _ => ?_⟩))
  · have kk := k h3 (C.q (F.q.tr F3.q)) (F.q.tr F3.q).mm
    unfold q_fitted at kk
    rw [if_pos ⟨a, b⟩] at kk; exact kk
  · have kk := k h C (FrM.rf h)
    unfold q_fitted at kk
    rw [if_neg z] at kk; exact kk
theorem m_withoutFactor (C : CG h σ) {K : Int → mH → Prop} {x1 x2 : Int} (hx : mInR x1) (hx2 : mInR x2) (k : ∀ h2, CG h2 σ → FrM h h2 → K (q_withoutFactor σ x1 x2) h2) : OkJ M6_withoutFactor [mR 25 0, mI x1, mI x2] h K := by
  have P := C.1
  have B := C.2.1
  have kk := k h C (FrM.rf h)
  have k2 := fun h2 (F : FrQ h h2) => k h2 (C.q F) F.mm
  unfold q_withoutFactor at kk k2
  refine s6_withoutFactor (k3_hasFactor P hx (fun a b => ⟨by decide, fun w => absurd w (by decide), fun _ => k_within hx2 (by decide) (by decide) (fun e f => ⟨by decide, fun _ => k0_copyFrom (by decide) (fun h2 Bc F => k0_setAll (Bc _ _ B) a b (fun h3 B3 F3 => ?_)), fun w => absurd w (by decide)⟩) (fun z => ⟨by decide, fun w => absurd rfl w, fun _ => ?_⟩)⟩) (fun z => ⟨by decide, fun _ => ?_, fun w => absurd rfl w⟩))
  · have G3 := F.q.tr F3.q
    refine k2_playRounds (G3.pl P) B3 (by omega) hx (fun h4 m _ _ B4 F4 => ?_)
    have G4 := G3.tr F4.q
    refine k2_sumMisfit (G4.pl P) B4 (fun h5 F5 => ?_)
    have k3 := k2 h5 (G4.tr F5.q)
    rw [if_pos ⟨⟨a, b⟩, e, f⟩] at k3
    exact k3
  · rw [if_neg (fun w => z w.2)] at kk; exact kk
  · rw [if_neg (fun w => z w.1)] at kk; exact kk
theorem m_withoutRisk (C : CG h σ) {K : Int → mH → Prop} {x1 x2 : Int} (hx : mInR x1) (hx2 : mInR x2) (k : ∀ h2, CG h2 σ → FrM h h2 → K (q_withoutRisk σ x1 x2) h2) : OkI M6_withoutRisk [mR 25 0, mI x1, mI x2] h K := by
  have P := C.1
  have B := C.2.1
  have kk := k h C (FrM.rf h)
  have k2 := fun h2 (F : FrQ h h2) => k h2 (C.q F) F.mm
  unfold q_withoutRisk at kk k2
  refine s6_withoutRisk (k0_hasRisk B hx (fun a b => ⟨by decide, fun w => absurd w (by decide), fun _ => k_within hx2 (by decide) (by decide) (fun e f => ⟨by decide, fun _ => k0_copyFrom (by decide) (fun h2 Bc F => k0_removeRisk (Bc _ _ B) a b (fun h3 B3 F3 => ?_)), fun w => absurd w (by decide)⟩) (fun z => ⟨by decide, fun w => absurd rfl w, fun _ => ?_⟩)⟩) (fun z => ⟨by decide, fun _ => ?_, fun w => absurd rfl w⟩))
  · have G3 := F.q.tr F3.q
    refine k2_playRounds (G3.pl P) B3 (by omega) (by decide) (fun h4 m _ _ B4 F4 => ?_)
    have G4 := G3.tr F4.q
    refine k2_rebase (G4.pl P) B4 (fun h5 B5 F5 => ?_)
    have k3 := k2 h5 (G4.tr F5.q)
    rw [if_pos ⟨⟨a, b⟩, e, f⟩] at k3
    rw [B5.1.2.1]
    exact k3
  · rw [if_neg (fun w => z w.2)] at kk; exact kk
  · rw [if_neg (fun w => z w.1)] at kk; exact kk
theorem m_quote (C : CG h σ) {K : Int → mH → Prop} {x1 x2 : Int} (hx : mInR x1) (hx2 : mInR x2) (k : ∀ h2, CG h2 σ → FrM h h2 → K (q_quote σ x1 x2) h2) : OkJ M6_quote [mR 25 0, mI x1, mI x2] h K := by
  have P := C.1
  have B := C.2.1
  have h4 := P.n4
  have kk := k h C (FrM.rf h)
  unfold q_quote at kk
  refine s6_quote (k_within hx (by decide) (by decide) (fun a b => ⟨by decide, fun w => absurd w (by decide), fun _ => k3_hasLevels P hx2 (fun hv => ⟨by decide, fun _ => k2_premiumFor P B (by omega) ⟨hv.1, hx2.2⟩ (fun f c d => (hv.2.1 f c (by omega)).1 d) ?_, fun w => absurd w (by decide)⟩) (fun hv => ⟨by decide, fun w => absurd rfl w, fun _ => ?_⟩)⟩) (fun z => ⟨by decide, fun _ => ?_, fun w => absurd rfl w⟩))
  · rw [if_pos ⟨⟨a, b⟩, (vldB_iff _ _).mpr hv⟩] at kk; exact kk
  · rw [if_neg (fun w => by have := vldB_no hv; rw [this] at w; exact absurd w.2 (by decide))] at kk; exact kk
  · rw [if_neg (fun w => z w.1)] at kk; exact kk
theorem m_kinds (C : CG h σ) {K : Int → mH → Prop} {x1 : Int} (hx : mInR x1) (k : ∀ h2, CG h2 σ → FrM h h2 → K (q_kinds σ x1) h2) : OkI M6_kinds [mR 25 0, mI x1] h K := by
  have P := C.1
  have B := C.2.1
  have kk := k h C (FrM.rf h)
  unfold q_kinds at kk
  refine s6_kinds (k_within hx (by decide) (by decide) (fun a b => ⟨by decide, fun _ => ⟨hx, fun z => k3_countKinds P (k0_countKinds B ?_), fun z => k3_countKinds P ?_⟩, fun w => absurd w (by decide)⟩) (fun z => ⟨by decide, fun w => absurd rfl w, fun _ => ?_⟩))
  · rw [if_pos ⟨a, b⟩, if_neg z] at kk
    rw [knF_eq B.wp B.wf]
    exact kk
  · rw [if_pos ⟨a, b⟩, if_pos z] at kk; exact kk
  · rw [if_neg z] at kk; exact kk
end OFF4
