/-! the reference: public calls that can be undone, images, and small questions -/
section REF9
variable {h : mH} {σ : Sg}
theorem RG.rowP {h2 : mH} (R : RG h2 (pus σ)) {s2 : Int → Int} (hs : WfS (gP σ) s2) : RG (rs h2 41 0 s2) (toS (pus σ) s2) := RS.row R hs
theorem frC_41 (h : mH) (f : Int → Int) : FrC h (rs h 41 0 f) := FrC.rs (by decide)
theorem r_turn (R : RG h σ) {K : Int → mH → Prop} {x1 : Int} (hx : mInR x1) (k1 : 0 ≤ x1 → x1 < nf (gP σ) → ∀ h2, RG h2 (toS (pus σ) (tuS (gP σ) (gS σ) x1)) → FrC h h2 → K (tc (gP σ) (gS σ) x1) h2) (k0 : ¬ (0 ≤ x1 ∧ x1 < nf (gP σ)) → ∀ h2, RG h2 σ → FrC h h2 → K (-1) h2) : OkI M7_turn [mR 30 0, mI x1] h K := by
  refine s7_turn ?_
  rintro _ rfl
  have R1 := R.th2 0
  refine c7_isFactor R1.1 hx (fun a b => ⟨by decide, fun _ => c7_push R1 (fun h2 R2 F2 => ?_), fun w => absurd w (by decide)⟩) (fun z => ⟨by decide, fun w => absurd rfl w, fun _ => k0 z _ R1 (frC_th2 h 0)⟩)
  have R3 : Rf h2 (gP σ) (gS σ) := R2.1
  exact c7_turns R3 a b (k1 a b _ (R2.rowP (tuS_wf R3.2.2.1 R3.2.2.2 a b)) (((frC_th2 h 0).tr F2).tr (frC_41 _ _)))
theorem r_round (R : RG h σ) {K : Int → mH → Prop} {x1 : Int} (hx : mInR x1) (k1 : 1 ≤ x1 → x1 ≤ 50 → ∀ h2, RG h2 (toS (pus σ) (rn (gP σ) (-1) x1 (gS σ))) → FrC h h2 → K (unb (gP σ) (rn (gP σ) (-1) x1 (gS σ))) h2) (k0 : ¬ (1 ≤ x1 ∧ x1 ≤ 50) → ∀ h2, RG h2 σ → FrC h h2 → K (-1) h2) : OkI M7_round [mR 30 0, mI x1] h K := by
  refine s7_round ?_
  rintro _ rfl
  have R1 := R.th2 0
  refine ⟨hx, fun z => k0 (by omega) _ R1 (frC_th2 h 0), fun z => ⟨hx, fun z2 => c7_push R1 (fun h2 R2 F2 => ?_), fun z2 => k0 (by omega) _ R1 (frC_th2 h 0)⟩⟩
  have R3 : Rf h2 (gP σ) (gS σ) := R2.1
  have hw := rn_wf R3.2.2.1 R3.2.2.2 (-1) x1
  exact c7_rounds R3 (by omega) (by decide) (c7_unbalancedNow (R3.row hw) (k1 (by omega) z2 _ (R2.rowP hw) (((frC_th2 h 0).tr F2).tr (frC_41 _ _))))
theorem r_rebase (R : RG h σ) {K : Int → mH → Prop} (k : ∀ h2, RG h2 (toS (pus σ) (rbS (gP σ) (gS σ))) → FrC h h2 → K (rbS (gP σ) (gS σ) 308) h2) : OkI M7_rebase [mR 30 0] h K := by
  refine s7_rebase ?_
  rintro _ rfl
  have R1 := R.th2 0
  refine c7_push R1 (fun h2 R2 F2 => ?_)
  have R3 : Rf h2 (gP σ) (gS σ) := R2.1
  refine c7_rebases R3 ?_
  rw [rs_same]
  exact k _ (R2.rowP (rbS_wf R3.2.2.1 R3.2.2.2)) (((frC_th2 h 0).tr F2).tr (frC_41 _ _))
theorem r_level (R : RG h σ) {K : Int → mH → Prop} (k : ∀ h2, RG h2 (toS (pus σ) (lvS (gP σ) (gS σ))) → FrC h h2 → K (lvS (gP σ) (gS σ) 308) h2) : OkI M7_level [mR 30 0] h K := by
  refine s7_level ?_
  rintro _ rfl
  have R1 := R.th2 0
  refine c7_push R1 (fun h2 R2 F2 => ?_)
  have R3 : Rf h2 (gP σ) (gS σ) := R2.1
  refine c7_levels R3 ?_
  rw [rs_same]
  exact k _ (R2.rowP (lvS_wf R3.2.2.1 R3.2.2.2)) (((frC_th2 h 0).tr F2).tr (frC_41 _ _))
def VLv (σ : Sg) (f l : Int) : Prop := (0 ≤ f ∧ f < nf (gP σ)) ∧ 0 ≤ l ∧ l < lv (gP σ) f
theorem r_relativity (R : RG h σ) {K : Int → mH → Prop} {x1 x2 x3 : Int} (hx : mInR x1) (hx2 : mInR x2) (hx3 : mInR x3) (k1 : VLv σ x1 x2 → lo (gP σ) x1 ≤ x3 → x3 ≤ hi (gP σ) x1 → ∀ h2, RG h2 (toS (pus σ) (reS (gS σ) x1 x2 x3)) → FrC h h2 → K (gS σ (280 + 6 * x1 + x2)) h2) (k0 : ¬ (VLv σ x1 x2 ∧ lo (gP σ) x1 ≤ x3 ∧ x3 ≤ hi (gP σ) x1) → ∀ h2, RG h2 σ → FrC h h2 → K (-1) h2) : OkI M7_relativity [mR 30 0, mI x1, mI x2, mI x3] h K := by
  refine s7_relativity ?_
  rintro _ rfl
  have R1 := R.th2 0
  have Q1 : Rf _ (gP σ) (gS σ) := R1.1
  have no : ¬ (VLv σ x1 x2 ∧ lo (gP σ) x1 ≤ x3 ∧ x3 ≤ hi (gP σ) x1) → K (-1) (mSet h 30 0 0 0) := fun z => k0 z _ R1 (frC_th2 h 0)
  refine c7_isLevel Q1 hx hx2 (fun a b c d => ⟨by decide, fun w => absurd w (by decide), fun _ => ?_⟩) (fun z => ⟨by decide, fun _ => no (fun w => z w.1), fun w => absurd rfl w⟩)
  have h4 := Q1.n4
  have hb := Q1.pf a b
  rw [Q1.e36 a b, Q1.e37 a b]
  refine ⟨by omega, by omega, fun z => no (by omega), fun z => ⟨by omega, by omega, fun z2 => c7_relativityOf Q1.es (by omega) (by omega) (c7_push R1 (fun h2 R2 F2 => ?_)), fun z2 => no (by omega)⟩⟩
  have R3 : Rf h2 (gP σ) (gS σ) := R2.1
  exact c7_relates R3.2.2.1 R3.2.2.2.j R3.es a b c d (k1 ⟨⟨a, b⟩, c, d⟩ (by omega) z2 _ (R2.rowP (reS_wf R3.2.2.1 R3.2.2.2 a b c d (by omega))) (((frC_th2 h 0).tr F2).tr (frC_41 _ _)))
def VR (σ : Sg) (r : Int) : Prop := 0 ≤ r ∧ r < gS σ 310
theorem r_claims (R : RG h σ) {K : Int → mH → Prop} {x1 x2 : Int} (hx : mInR x1) (hx2 : mInR x2) (k1 : VR σ x1 → 0 ≤ x2 → x2 ≤ 99999 → ∀ h2, RG h2 (toS (pus σ) (up (gS σ) (7 * x1 + 1) x2)) → FrC h h2 → K (gS σ (7 * x1 + 1)) h2) (k0 : ¬ (VR σ x1 ∧ 0 ≤ x2 ∧ x2 ≤ 99999) → ∀ h2, RG h2 σ → FrC h h2 → K (-1) h2) : OkI M7_claims [mR 30 0, mI x1, mI x2] h K := by
  refine s7_claims ?_
  rintro _ rfl
  have R1 := R.th2 0
  have Q1 : Rf _ (gP σ) (gS σ) := R1.1
  have no : ¬ (VR σ x1 ∧ 0 ≤ x2 ∧ x2 ≤ 99999) → K (-1) (mSet h 30 0 0 0) := fun z => k0 z _ R1 (frC_th2 h 0)
  have hm := Q1.m40
  refine c7_isRisk Q1 hx (fun a b => ⟨by decide, fun w => absurd w (by decide), fun _ => ⟨hx2, fun z => no (by omega), fun z => ⟨hx2, fun z2 => ⟨by omega, c7_push R1 (fun h2 R2 F2 => ⟨by omega, ?_⟩)⟩, fun z2 => no (by omega)⟩⟩⟩) (fun z => ⟨by decide, fun _ => no (fun w => z w.1), fun w => absurd rfl w⟩)
  rintro _ rfl
  have R3 : Rf h2 (gP σ) (gS σ) := R2.1
  rw [Q1.es, mSet_rs, R3.es]
  exact k1 ⟨a, b⟩ (by omega) z2 _ (R2.rowP (R3.2.2.2.claim R3.2.2.1 a b (by omega))) (((frC_th2 h 0).tr F2).tr (frC_41 _ _))
theorem r_drop (R : RG h σ) {K : Int → mH → Prop} {x1 : Int} (hx : mInR x1) (k1 : VR σ x1 → ∀ h2, RG h2 (toS (pus σ) (goS (gS σ) x1)) → FrC h h2 → K (gS σ 310 - 1) h2) (k0 : ¬ VR σ x1 → ∀ h2, RG h2 σ → FrC h h2 → K (-1) h2) : OkI M7_drop [mR 30 0, mI x1] h K := by
  refine s7_drop ?_
  rintro _ rfl
  have R1 := R.th2 0
  have Q1 : Rf _ (gP σ) (gS σ) := R1.1
  refine c7_isRisk Q1 hx (fun a b => ⟨by decide, fun _ => c7_push R1 (fun h2 R2 F2 => ?_), fun w => absurd w (by decide)⟩) (fun z => ⟨by decide, fun w => absurd rfl w, fun _ => k0 z _ R1 (frC_th2 h 0)⟩)
  have R3 : Rf h2 (gP σ) (gS σ) := R2.1
  refine c7_goes R3 a b (c7_many (R3.row (goS_wf R3.2.2.1 R3.2.2.2 a b)) ?_)
  rw [show goS (gS σ) x1 310 = gS σ 310 - 1 from by unfold goS; rw [if_pos rfl]]
  exact k1 ⟨a, b⟩ _ (R2.rowP (goS_wf R3.2.2.1 R3.2.2.2 a b)) (((frC_th2 h 0).tr F2).tr (frC_41 _ _))
theorem joS_jb {p : Pn} {s : Int → Int} (hp : WfP p) (hs : WfS p s) {f l : Int} (h0 : 0 ≤ f) (h1 : f < nf p) (h2 : 0 ≤ l) (h3 : l + 1 < lv p f) : jb (joS s f l (304 + f)) l = !jb (s (304 + f)) l := by
  have hb := hp.2 f h0 h1
  have hn := hp.1.1
  have hx := joX_jb (s := s) (f := f) (l := l) (k := l) (by omega) (by omega)
  rw [decide_eq_true rfl, Bool.xor_true] at hx
  have hJ := joX_J hp hs.j h0 h1 h2 h3
  have hlb := la_bd hp hJ h0 h1 h2 (by omega)
  unfold joS
  split
  · exact hx
  · unfold reS
    rw [if_neg (by omega)]
    exact hx
theorem r_join (R : RG h σ) {K : Int → mH → Prop} {x1 x2 : Int} (hx : mInR x1) (hx2 : mInR x2) (k1 : VLv σ x1 x2 → x2 + 1 < lv (gP σ) x1 → ∀ h2, RG h2 (toS (pus σ) (joS (gS σ) x1 x2)) → FrC h h2 → K (if jb (gS σ (304 + x1)) x2 then 0 else 1) h2) (k0 : ¬ (VLv σ x1 x2 ∧ x2 + 1 < lv (gP σ) x1) → ∀ h2, RG h2 σ → FrC h h2 → K (-1) h2) : OkI M7_join [mR 30 0, mI x1, mI x2] h K := by
  refine s7_join ?_
  rintro _ rfl
  have R1 := R.th2 0
  have Q1 : Rf _ (gP σ) (gS σ) := R1.1
  refine c7_isLevel Q1 hx hx2 (fun a b c d => ⟨by decide, fun w => absurd w (by decide), fun _ => ?_⟩) (fun z => ⟨by decide, fun _ => k0 (fun w => z w.1) _ R1 (frC_th2 h 0), fun w => absurd rfl w⟩)
  have h4 := Q1.n4
  have hb := Q1.pf a b
  rw [Q1.e35 a b]
  refine ⟨by omega, by omega, fun z => c7_push R1 (fun h2 R2 F2 => ?_), fun z => k0 (by omega) _ R1 (frC_th2 h 0)⟩
  have R3 : Rf h2 (gP σ) (gS σ) := R2.1
  have hl : x2 + 1 < lv (gP σ) x1 := by omega
  have hw := joS_wf R3.2.2.1 R3.2.2.2 a b c hl
  have hj := joS_jb R3.2.2.1 R3.2.2.2 a b c hl
  have kk := k1 ⟨⟨a, b⟩, c, d⟩ hl _ (R2.rowP hw) (((frC_th2 h 0).tr F2).tr (frC_41 _ _))
  refine c7_joins R3 a b c hl (c7_isJoined (R3.row hw).es (by omega) hx2 (fun _ z2 => ⟨by decide, fun w => absurd w (by decide), fun _ => ?_⟩) (fun z2 => ⟨by decide, fun _ => ?_, fun w => absurd rfl w⟩))
  · rw [hj] at z2
    have z3 : jb (gS σ (304 + x1)) x2 = false := by simpa using z2
    rw [z3] at kk
    exact kk
  · have z2 := z2 c
    rw [hj] at z2
    have z3 : jb (gS σ (304 + x1)) x2 = true := by simpa using z2
    rw [if_pos z3] at kk
    exact kk
theorem r_cap (R : RG h σ) {K : Int → mH → Prop} {x1 : Int} (hx : mInR x1) (k1 : 0 ≤ x1 → x1 ≤ 999 → ∀ h2, RG h2 (toS (pus σ) (up (gS σ) 309 x1)) → FrC h h2 → K (gS σ 309) h2) (k0 : ¬ (0 ≤ x1 ∧ x1 ≤ 999) → ∀ h2, RG h2 σ → FrC h h2 → K (-1) h2) : OkI M7_cap [mR 30 0, mI x1] h K := by
  refine s7_cap ?_
  rintro _ rfl
  have R1 := R.th2 0
  have Q1 : Rf _ (gP σ) (gS σ) := R1.1
  refine ⟨hx, fun z => k0 (by omega) _ R1 (frC_th2 h 0), fun z => ⟨hx, fun z2 => c7_push R1 (fun h2 R2 F2 => ?_), fun z2 => k0 (by omega) _ R1 (frC_th2 h 0)⟩⟩
  rintro _ rfl
  have R3 : Rf h2 (gP σ) (gS σ) := R2.1
  rw [Q1.es, mSet_rs, R3.es]
  exact k1 (by omega) z2 _ (R2.rowP (R3.2.2.2.cap R3.2.2.1 (by omega))) (((frC_th2 h 0).tr F2).tr (frC_41 _ _))
theorem r_trust (R : RG h σ) {K : Int → mH → Prop} {x1 : Int} (hx : mInR x1) (k1 : 0 ≤ x1 → x1 ≤ 999 → ∀ h2, RG h2 (toS (pus σ) (up (gS σ) 311 x1)) → FrC h h2 → K (gS σ 311) h2) (k0 : ¬ (0 ≤ x1 ∧ x1 ≤ 999) → ∀ h2, RG h2 σ → FrC h h2 → K (-1) h2) : OkI M7_trust [mR 30 0, mI x1] h K := by
  refine s7_trust ?_
  rintro _ rfl
  have R1 := R.th2 0
  have Q1 : Rf _ (gP σ) (gS σ) := R1.1
  refine ⟨hx, fun z => k0 (by omega) _ R1 (frC_th2 h 0), fun z => ⟨hx, fun z2 => c7_push R1 (fun h2 R2 F2 => ?_), fun z2 => k0 (by omega) _ R1 (frC_th2 h 0)⟩⟩
  rintro _ rfl
  have R3 : Rf h2 (gP σ) (gS σ) := R2.1
  rw [Q1.es, mSet_rs, R3.es]
  exact k1 (by omega) z2 _ (R2.rowP (R3.2.2.2.trust R3.2.2.1 (by omega))) (((frC_th2 h 0).tr F2).tr (frC_41 _ _))
def flS (s : Int → Int) (a b : Int) : Int → Int := up (up s 312 a) 313 b
theorem flS_wf {p : Pn} {s : Int → Int} (hp : WfP p) (hs : WfS p s) {a b : Int} (ha : 1 ≤ a ∧ a ≤ 99) (hb : 0 ≤ b ∧ b ≤ 500) : WfS p (flS s a b) := (hs.size hp ha).off hp hb
theorem r_fleet (R : RG h σ) {K : Int → mH → Prop} {x1 x2 : Int} (hx : mInR x1) (hx2 : mInR x2) (k1 : (1 ≤ x1 ∧ x1 ≤ 99) → (0 ≤ x2 ∧ x2 ≤ 500) → ∀ h2, RG h2 (toS (pus σ) (flS (gS σ) x1 x2)) → FrC h h2 → K (sm (fun r => if gS σ (7 * r + 0) < x1 then 0 else 1) (gS σ 310)) h2) (k0 : ¬ ((1 ≤ x1 ∧ x1 ≤ 99) ∧ 0 ≤ x2 ∧ x2 ≤ 500) → ∀ h2, RG h2 σ → FrC h h2 → K (-1) h2) : OkI M7_fleet [mR 30 0, mI x1, mI x2] h K := by
  refine s7_fleet ?_
  rintro _ rfl
  have R1 := R.th2 0
  have no : ¬ ((1 ≤ x1 ∧ x1 ≤ 99) ∧ 0 ≤ x2 ∧ x2 ≤ 500) → K (-1) (mSet h 30 0 0 0) := fun z => k0 z _ R1 (frC_th2 h 0)
  refine ⟨hx, fun z => no (by omega), fun z => ⟨hx, fun z2 => no (by omega), fun z2 => ⟨hx2, fun z3 => no (by omega), fun z3 => ⟨hx2, fun z4 => c7_push R1 (fun h2 R2 F2 => ?_), fun z4 => no (by omega)⟩⟩⟩⟩
  rintro _ rfl _ rfl
  have R3 : Rf h2 (gP σ) (gS σ) := R2.1
  rw [mSet_rs, mSet_rs, rs_same, rs_rs, R3.es]
  have hw : WfS (gP σ) (flS (gS σ) x1 x2) := flS_wf R3.2.2.1 R3.2.2.2 (by omega) (by omega)
  have R4 := R3.row hw
  have kk := k1 (by omega) (by omega) _ (R2.rowP hw) (((frC_th2 h 0).tr F2).tr (frC_41 _ _))
  show A7_fleet_56 K x1 x2 0 0 (rs h2 41 0 (flS (gS σ) x1 x2))
  have e : ∀ j, j < 308 ∨ j = 310 → flS (gS σ) x1 x2 j = gS σ j := fun j hj => by unfold flS; rw [up_ne (by omega), up_ne (by omega)]
  have hm := R3.m40
  refine upI (P := fun r => A7_fleet_56 K x1 x2 (sm (fun r => if gS σ (7 * r + 0) < x1 then 0 else 1) r) r (rs h2 41 0 (flS (gS σ) x1 x2))) (n := gS σ 310) ?_ (fun r h5 h6 ih => ?_) 0 (by omega) (by omega)
  · refine s7_fleet_56 (c7_many R4 ?_)
    rw [e 310 (by omega)]
    exact ⟨by omega, fun _ => kk, fun z => absurd (Int.le_refl _) z⟩
  · rw [sm_s _ h5] at ih
    refine s7_fleet_56 (c7_many R4 ?_)
    rw [e 310 (by omega), R4.es, e (7 * r + 0) (by omega)]
    have hr := (R3.2.2.2.2.1 r h5 h6).1
    refine ⟨by omega, fun z => by omega, fun _ => ⟨by omega, ⟨by omega, by omega⟩, fun z => ?_, fun z => ?_⟩⟩
    · rw [if_pos z] at ih; exact ih
    · rw [if_neg z] at ih; exact ih
theorem r_risk (R : RG h σ) {K : Int → mH → Prop} {x1 x2 x3 x4 : Int} (hx : mInR x1) (hx2 : mInR x2) (hx3 : mInR x3) (hx4 : mInR x4)
    (k1 : (1 ≤ x1 ∧ x1 ≤ 99) → (0 ≤ x2 ∧ x2 ≤ 99999) → (1 ≤ x3 ∧ x3 ≤ 99999) → vld (gP σ) x4 → gS σ 310 < 40 → ∀ h2, RG h2 (toS (pus σ) (adS (gS σ) x1 x2 x3 x4)) → FrC h h2 → K (gS σ 310) h2)
    (k2 : (1 ≤ x1 ∧ x1 ≤ 99) → (0 ≤ x2 ∧ x2 ≤ 99999) → (1 ≤ x3 ∧ x3 ≤ 99999) → vld (gP σ) x4 → gS σ 310 = 40 → ∀ h2, RG h2 σ → FrC h h2 → K (-2) h2)
    (k0 : ¬ ((1 ≤ x1 ∧ x1 ≤ 99) ∧ (0 ≤ x2 ∧ x2 ≤ 99999) ∧ (1 ≤ x3 ∧ x3 ≤ 99999) ∧ vld (gP σ) x4) → ∀ h2, RG h2 σ → FrC h h2 → K (-1) h2) : OkI M7_risk [mR 30 0, mI x1, mI x2, mI x3, mI x4] h K := by
  refine s7_risk ?_
  rintro _ rfl
  have R1 := R.th2 0
  have Q1 : Rf _ (gP σ) (gS σ) := R1.1
  have hm := Q1.m40
  have no : ¬ ((1 ≤ x1 ∧ x1 ≤ 99) ∧ (0 ≤ x2 ∧ x2 ≤ 99999) ∧ (1 ≤ x3 ∧ x3 ≤ 99999) ∧ vld (gP σ) x4) → K (-1) (mSet h 30 0 0 0) := fun z => k0 z _ R1 (frC_th2 h 0)
  refine ⟨hx, fun z => no (by omega), fun z => ⟨hx, fun z2 => no (by omega), fun z2 => ⟨hx2, fun z3 => no (by omega), fun z3 => ⟨hx2, fun z4 => no (by omega), fun z4 => ⟨hx3, fun z5 => no (by omega), fun z5 => ⟨hx3, fun z6 => no (by omega), fun z6 => ?_⟩⟩⟩⟩⟩⟩
  have R45 : ∀ g : Int → Int, RG (rs (mSet h 30 0 0 0) 45 0 g) σ := fun g => R1.fr (fun r hr => rs_r (by omega)) (fun k hk => by rw [rs_r (by decide)])
  have F45 : ∀ g : Int → Int, FrC h (rs (mSet h 30 0 0 0) 45 0 g) := fun g => (frC_th2 h 0).tr (FrC.rs (by decide))
  refine c7_laysLevels Q1 hx4 (fun hv g hg => ⟨by decide, fun _ => c7_many (R45 g).1 ⟨by omega, fun z => c7_push2 (R45 g) (fun h2 R2 F2 G2 => ?_), fun z => k2 (by omega) (by omega) (by omega) hv z _ (R45 g) (F45 g)⟩, fun w => absurd w (by decide)⟩) (fun hv g => ⟨by decide, fun w => absurd rfl w, fun _ => k0 (fun w => hv w.2.2.2) _ (R45 g) (F45 g)⟩)
  have R3 : Rf h2 (gP σ) (gS σ) := R2.1
  have h45 : ∀ f, 0 ≤ f → f < 4 → h2 45 0 f = dg x4 f := by
    intro f a b
    rw [G2 45 (by decide) (by decide), rs_same]
    exact hg f a b
  refine c7_many R3 ⟨by omega, ?_⟩
  rintro _ rfl
  refine ⟨by omega, ?_⟩
  rintro _ rfl
  refine ⟨by omega, ?_⟩
  rintro _ rfl
  rw [mSet_rs, mSet_rs, mSet_rs, rs_same, rs_rs, rs_same, rs_rs, R3.es]
  have hd := fun f => dg_bd x4 f
  let G : Int → Int → Int := fun q j => if j = 7 * gS σ 310 + 0 then x1 else if j = 7 * gS σ 310 + 1 then x2 else if j = 7 * gS σ 310 + 2 then x3 else if 7 * gS σ 310 + 3 ≤ j ∧ j < 7 * gS σ 310 + 3 + q then dg x4 (j - (7 * gS σ 310 + 3)) else gS σ j
  have key := upI (P := fun q => A7_risk_106 K x1 x2 x3 x4 (7 * gS σ 310) q (rs h2 41 0 (G q))) (n := 4) ?_ (fun q h5 h6 ih => ?_) 0 (by omega) (by omega)
  · have e : G 0 = up (up (up (gS σ) (7 * gS σ 310 + 0) x1) (7 * gS σ 310 + 1) x2) (7 * gS σ 310 + 2) x3 := by
      funext j
      show (if j = 7 * gS σ 310 + 0 then x1 else if j = 7 * gS σ 310 + 1 then x2 else if j = 7 * gS σ 310 + 2 then x3 else if 7 * gS σ 310 + 3 ≤ j ∧ j < 7 * gS σ 310 + 3 + 0 then dg x4 (j - (7 * gS σ 310 + 3)) else gS σ j) = _
      unfold up
      by_cases c0 : j = 7 * gS σ 310 + 0
      · rw [if_pos c0, if_neg (by omega), if_neg (by omega), if_pos c0]
      · rw [if_neg c0]
        by_cases c1 : j = 7 * gS σ 310 + 1
        · rw [if_pos c1, if_neg (by omega), if_pos c1]
        · rw [if_neg c1]
          by_cases c2 : j = 7 * gS σ 310 + 2
          · rw [if_pos c2, if_pos c2]
          · rw [if_neg c2, if_neg c2, if_neg c1, if_neg c0, if_neg (by omega)]
    rw [e] at key
    exact key
  · refine s7_risk_106 ⟨by decide, fun _ => ?_, fun z => absurd (Int.le_refl _) z⟩
    rintro _ rfl
    rw [mSet_rs, rs_same, rs_rs]
    have e0 : G 4 310 = gS σ 310 := by
      show (if (310 : Int) = 7 * gS σ 310 + 0 then x1 else if (310 : Int) = 7 * gS σ 310 + 1 then x2 else if (310 : Int) = 7 * gS σ 310 + 2 then x3 else if 7 * gS σ 310 + 3 ≤ (310 : Int) ∧ (310 : Int) < 7 * gS σ 310 + 3 + 4 then dg x4 (310 - (7 * gS σ 310 + 3)) else gS σ 310) = _
      rw [if_neg (by omega), if_neg (by omega), if_neg (by omega), if_neg (by omega)]
    have e : up (G 4) 310 (G 4 310 + 1) = adS (gS σ) x1 x2 x3 x4 := by
      rw [e0]
      funext j
      unfold up adS
      by_cases c : j = 310
      · rw [if_pos c, if_pos c]
      · rw [if_neg c, if_neg c]
        show (if j = 7 * gS σ 310 + 0 then x1 else if j = 7 * gS σ 310 + 1 then x2 else if j = 7 * gS σ 310 + 2 then x3 else if 7 * gS σ 310 + 3 ≤ j ∧ j < 7 * gS σ 310 + 3 + 4 then dg x4 (j - (7 * gS σ 310 + 3)) else gS σ j) = _
        rw [show 7 * gS σ 310 + 3 + 4 = 7 * gS σ 310 + 7 by omega]
    rw [e]
    have hw := adS_wf R3.2.2.1 R3.2.2.2 (e := x1) (c := x2) (o := x3) (x := x4) (by omega) (by omega) (by omega) (by omega) hv
    have hmm : adS (gS σ) x1 x2 x3 x4 310 = gS σ 310 + 1 := by unfold adS; rw [if_pos rfl]
    refine c7_many (R3.row hw) ?_
    rw [hmm, show gS σ 310 + 1 - 1 = gS σ 310 by omega]
    exact k1 (by omega) (by omega) (by omega) hv (by omega) _ (R2.rowP hw) (((F45 g).tr F2).tr (frC_41 _ _))
  · refine s7_risk_106 ⟨by omega, fun z => by omega, fun _ => ⟨by omega, by omega, ?_⟩⟩
    rintro _ rfl
    rw [mSet_rs, rs_same, rs_rs, rs_r (by decide), h45 q h5 h6]
    have e : up (G q) (7 * gS σ 310 + 3 + q) (dg x4 q) = G (q + 1) := by
      funext j
      unfold up
      show (if j = 7 * gS σ 310 + 3 + q then dg x4 q else if j = 7 * gS σ 310 + 0 then x1 else if j = 7 * gS σ 310 + 1 then x2 else if j = 7 * gS σ 310 + 2 then x3 else if 7 * gS σ 310 + 3 ≤ j ∧ j < 7 * gS σ 310 + 3 + q then dg x4 (j - (7 * gS σ 310 + 3)) else gS σ j) = if j = 7 * gS σ 310 + 0 then x1 else if j = 7 * gS σ 310 + 1 then x2 else if j = 7 * gS σ 310 + 2 then x3 else if 7 * gS σ 310 + 3 ≤ j ∧ j < 7 * gS σ 310 + 3 + (q + 1) then dg x4 (j - (7 * gS σ 310 + 3)) else gS σ j
      by_cases c : j = 7 * gS σ 310 + 3 + q
      · rw [if_pos c, if_neg (by omega), if_neg (by omega), if_neg (by omega), if_pos (by omega), c, show 7 * gS σ 310 + 3 + q - (7 * gS σ 310 + 3) = q by omega]
      · rw [if_neg c]
        by_cases d : 7 * gS σ 310 + 3 ≤ j ∧ j < 7 * gS σ 310 + 3 + q
        · rw [if_pos d, if_pos (c := 7 * gS σ 310 + 3 ≤ j ∧ j < 7 * gS σ 310 + 3 + (q + 1)) (by omega)]
        · rw [if_neg d, if_neg (c := 7 * gS σ 310 + 3 ≤ j ∧ j < 7 * gS σ 310 + 3 + (q + 1)) (by omega)]
    rw [e]
    exact ih
end REF9
