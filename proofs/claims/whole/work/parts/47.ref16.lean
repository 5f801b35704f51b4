/-! the reference: all public questions -/
section REF16
variable {h : mH} {σ : Sg}
theorem RG.as (R : RG h σ) (g : Int → Int) : RG (rs h 42 0 g) σ := R.fr (fun r hr => rs_r (by omega)) (fun k _ => by rw [rs_r (by decide)])
theorem frC_42 (h : mH) (g : Int → Int) : FrC h (rs h 42 0 g) := FrC.rs (by decide)
def q_unb (σ : Sg) : Int := unb (gP σ) (gS σ)
theorem r_unbalanced (R : RG h σ) {K : Int → mH → Prop} (k : ∀ h2, RG h2 σ → FrC h h2 → K (q_unb σ) h2) : OkI M7_unbalanced [mR 30 0] h K := by
  refine s7_unbalanced ?_
  rintro _ rfl
  exact c7_unbalancedNow (R.th2 0).1 (k _ (R.th2 0) (frC_th2 h 0))
def q_off (σ : Sg) : Int := ob (gP σ) (gS σ)
theorem r_offBalance (R : RG h σ) {K : Int → mH → Prop} (k : ∀ h2, RG h2 σ → FrC h h2 → K (q_off σ) h2) : OkI M7_offBalance [mR 30 0] h K := by
  refine s7_offBalance ?_
  rintro _ rfl
  exact c7_offBalanceNow (R.th2 0).1 (k _ (R.th2 0) (frC_th2 h 0))
def q_worst (σ : Sg) : Int := wor (gP σ) (gS σ)
theorem r_worst (R : RG h σ) {K : Int → mH → Prop} (k : ∀ h2, RG h2 σ → FrC h h2 → K (q_worst σ) h2) : OkI M7_worst [mR 30 0] h K := by
  refine s7_worst ?_
  rintro _ rfl
  exact c7_worst (R.th2 0).1 (k _ (R.th2 0) (frC_th2 h 0))
def q_factor (σ : Sg) (f w : Int) : Int := if w = 0 then lv (gP σ) f else if w = 1 then lo (gP σ) f else if w = 2 then hi (gP σ) f else if w = 3 then clF (gP σ) (gS σ) f else far (gP σ) (gS σ) f
theorem r_factor (R : RG h σ) {K : Int → mH → Prop} {x1 x2 : Int} (hx : mInR x1) (hx2 : mInR x2) (k0 : ¬ (0 ≤ x1 ∧ x1 < nf (gP σ)) → ∀ h2, RG h2 σ → FrC h h2 → h2 30 0 0 = 1 → K 0 h2) (k2 : (0 ≤ x1 ∧ x1 < nf (gP σ)) → ¬ (0 ≤ x2 ∧ x2 ≤ 4) → ∀ h2, RG h2 σ → FrC h h2 → h2 30 0 0 = 2 → K 0 h2) (k : (0 ≤ x1 ∧ x1 < nf (gP σ)) → (0 ≤ x2 ∧ x2 ≤ 4) → ∀ h2, RG h2 σ → FrC h h2 → h2 30 0 0 = 0 → K (q_factor σ x1 x2) h2) : OkI M7_factor [mR 30 0, mI x1, mI x2] h K := by
  refine s7_factor ?_
  rintro _ rfl
  have R1 := R.th2 0
  have Q1 : Rf _ (gP σ) (gS σ) := R1.1
  have hth : ∀ v, mSet h 30 0 0 v 30 0 0 = v := fun v => by rw [mSet_rs, rs_same, up_same]
  refine c7_isFactor Q1 hx (fun a b => ⟨by decide, fun _ => ?_, fun w => absurd w (by decide)⟩) (fun z => ⟨by decide, fun w => absurd rfl w, fun _ => ?_⟩)
  · have h4 := Q1.n4
    have kk := fun hz => k ⟨a, b⟩ hz _ R1 (frC_th2 h 0) (hth 0)
    unfold q_factor at kk
    rw [Q1.e35 a b, Q1.e36 a b, Q1.e37 a b]
    refine ⟨hx2, fun z => ⟨by omega, ?_⟩, fun z => ⟨by omega, ?_⟩, fun z => ⟨by omega, ?_⟩, fun z => c7_classesOf Q1 a b ?_, fun z => c7_farthestOff Q1 a b ?_, fun z => ?_⟩
    · have := kk (by omega); rw [if_pos z] at this; exact this
    · have := kk (by omega); rw [if_neg (by omega), if_pos z] at this; exact this
    · have := kk (by omega); rw [if_neg (by omega), if_neg (by omega), if_pos z] at this; exact this
    · have := kk (by omega); rw [if_neg (by omega), if_neg (by omega), if_neg (by omega), if_pos z] at this; exact this
    · have := kk (by omega); rw [if_neg (by omega), if_neg (by omega), if_neg (by omega), if_neg (by omega)] at this; exact this
    · rintro _ rfl
      exact k2 ⟨a, b⟩ (by omega) _ (R1.th2 2) ((frC_th2 h 0).tr (frC_th2 _ 2)) (by rw [mSet_rs, rs_same, up_same])
  · rintro _ rfl
    exact k0 z _ (R1.th2 1) ((frC_th2 h 0).tr (frC_th2 _ 1)) (by rw [mSet_rs, rs_same, up_same])
def q_margin (σ : Sg) (f l w : Int) : Int := if (0 ≤ f ∧ f < nf (gP σ)) ∧ 0 ≤ l ∧ l < lv (gP σ) f then (if w = 0 then gS σ (280 + 6 * f + l) else if w = 1 then fs (gS σ) f l else if w = 2 then la (gS σ) f l else if w = 3 then csC (gS σ) f l else if w = 4 then csP (gP σ) (gS σ) f l else if w = 5 then csE (gS σ) f l else if w = 6 then csR (gS σ) f l else if w = 7 then (if bal (gP σ) (gS σ) f l then 1 else 0) else -2000) else -2000
theorem r_margin (R : RG h σ) {K : Int → mH → Prop} {x1 x2 x3 : Int} (hx : mInR x1) (hx2 : mInR x2) (hx3 : mInR x3) (k : ∀ h2, RG h2 σ → FrC h h2 → K (q_margin σ x1 x2 x3) h2) : OkJ M7_margin [mR 30 0, mI x1, mI x2, mI x3] h K := by
  refine s7_margin ?_
  rintro _ rfl
  have R1 := R.th2 0
  have Q1 : Rf _ (gP σ) (gS σ) := R1.1
  have kk := k _ R1 (frC_th2 h 0)
  unfold q_margin at kk
  refine c7_isLevel Q1 hx hx2 (fun a b c d => ⟨by decide, fun _ => ?_, fun w => absurd w (by decide)⟩) (fun z => ⟨by decide, fun w => absurd rfl w, fun _ => ?_⟩)
  · rw [if_pos ⟨⟨a, b⟩, c, d⟩] at kk
    have h4 := Q1.n4
    have hb := Q1.pf a b
    have hr := rel_bd Q1.2.2.1 Q1.2.2.2 a b c d
    have hf := fs_le (s := gS σ) (f := x1) c
    have hl := la_bd Q1.2.2.1 Q1.2.2.2.j a b c d
    have hR := csR_bd Q1.2.2.2 x1 x2
    refine ⟨hx3, fun z => c7_relativityOf Q1.es (by omega) (by omega) ⟨by omega, ?_⟩, fun z => c7_firstOf Q1.es (by omega) (by omega) ⟨by omega, ?_⟩, fun z => c7_lastOf Q1.2.2.1 Q1.2.2.2.j Q1.es ⟨a, b⟩ ⟨c, d⟩ ⟨by omega, ?_⟩, fun z => c7_sumC Q1 a b c d ?_, fun z => c7_premiumsOf Q1 a b c d ?_, fun z => c7_sumE Q1 a b c d ?_, fun z => c7_risksOf Q1 a b c d ⟨by omega, ?_⟩, fun z => c7_balances Q1 a b c d (fun hb => ⟨by decide, fun w => absurd w (by decide), fun _ => ?_⟩) (fun hb => ⟨by decide, fun _ => ?_, fun w => absurd rfl w⟩), fun z => ?_⟩
    · rw [if_pos z] at kk; exact kk
    · rw [if_neg (by omega), if_pos z] at kk; exact kk
    · rw [if_neg (by omega), if_neg (by omega), if_pos z] at kk; exact kk
    · rw [if_neg (by omega), if_neg (by omega), if_neg (by omega), if_pos z] at kk; exact kk
    · rw [if_neg (by omega), if_neg (by omega), if_neg (by omega), if_neg (by omega), if_pos z] at kk; exact kk
    · rw [if_neg (by omega), if_neg (by omega), if_neg (by omega), if_neg (by omega), if_neg (by omega), if_pos z] at kk; exact kk
    · rw [if_neg (by omega), if_neg (by omega), if_neg (by omega), if_neg (by omega), if_neg (by omega), if_neg (by omega), if_pos z] at kk; exact kk
    · rw [if_neg (by omega), if_neg (by omega), if_neg (by omega), if_neg (by omega), if_neg (by omega), if_neg (by omega), if_neg (by omega), if_pos z, if_pos hb] at kk; exact kk
    · rw [if_neg (by omega), if_neg (by omega), if_neg (by omega), if_neg (by omega), if_neg (by omega), if_neg (by omega), if_neg (by omega), if_pos z, hb] at kk; exact kk
    · rw [if_neg (by omega), if_neg (by omega), if_neg (by omega), if_neg (by omega), if_neg (by omega), if_neg (by omega), if_neg (by omega), if_neg (by omega)] at kk; exact kk
  · rw [if_neg z] at kk; exact kk
def q_step (σ : Sg) (r n : Int) : Int := if (0 ≤ r ∧ r < gS σ 310) ∧ 0 ≤ n ∧ n ≤ nf (gP σ) then bh (gS σ) (gS σ (7 * r + 0)) (fun f => gS σ (7 * r + 3 + f)) n else -1
theorem r_step (R : RG h σ) {K : Int → mH → Prop} {x1 x2 : Int} (hx : mInR x1) (hx2 : mInR x2) (k : ∀ h2, RG h2 σ → FrC h h2 → K (q_step σ x1 x2) h2) : OkJ M7_step [mR 30 0, mI x1, mI x2] h K := by
  refine s7_step ?_
  rintro _ rfl
  have R1 := R.th2 0
  have Q1 : Rf _ (gP σ) (gS σ) := R1.1
  have kk := k _ R1 (frC_th2 h 0)
  unfold q_step at kk
  have hm := Q1.m40
  have h4 := Q1.n4
  refine c7_isRisk Q1 hx (fun a b => ⟨by decide, fun w => absurd w (by decide), fun _ => ⟨hx2, fun z => ?_, fun z => c7_factors Q1 ⟨by omega, fun z2 => ?_, fun z2 => ⟨by omega, ?_⟩⟩⟩⟩) (fun z => ⟨by decide, fun _ => ?_, fun w => absurd rfl w⟩)
  · rw [if_neg (by omega)] at kk; exact kk
  · rw [if_neg (by omega)] at kk; exact kk
  · rw [if_pos (by omega)] at kk
    have hr := (Q1.2.2.2.2.1 x1 a b).1
    rw [Q1.es]
    exact c7_premiumBehind Q1 (by omega) (by omega) (fun f c d => Q1.lev a b f c d) (Or.inl ⟨by omega, by omega, fun f _ _ => rfl⟩) kk
  · rw [if_neg (fun w => z w.1)] at kk; exact kk
def q_swing (σ : Sg) (r f w : Int) : Int := if (0 ≤ r ∧ r < gS σ 310) ∧ (0 ≤ f ∧ f < nf (gP σ)) ∧ 0 ≤ w ∧ w ≤ 1 then sw (gP σ) (gS σ) r f w else -1
theorem r_swing (R : RG h σ) {K : Int → mH → Prop} {x1 x2 x3 : Int} (hx : mInR x1) (hx2 : mInR x2) (hx3 : mInR x3) (k : ∀ h2, RG h2 σ → FrC h h2 → K (q_swing σ x1 x2 x3) h2) : OkI M7_swing [mR 30 0, mI x1, mI x2, mI x3] h K := by
  refine s7_swing ?_
  rintro _ rfl
  have R1 := R.th2 0
  have Q1 : Rf _ (gP σ) (gS σ) := R1.1
  have kk := k _ R1 (frC_th2 h 0)
  unfold q_swing at kk
  have hm := Q1.m40
  have h4 := Q1.n4
  refine c7_isRisk Q1 hx (fun a b => ⟨by decide, fun w => absurd w (by decide), fun _ => c7_isFactor Q1 hx2 (fun c d => ⟨by decide, fun w => absurd w (by decide), fun _ => ⟨hx3, fun z => ?_, fun z => ⟨hx3, fun z2 => ⟨by omega, ?_⟩, fun z2 => ?_⟩⟩⟩) (fun z => ⟨by decide, fun _ => ?_, fun w => absurd rfl w⟩)⟩) (fun z => ⟨by decide, fun _ => ?_, fun w => absurd rfl w⟩)
  · rw [if_neg (by omega)] at kk; exact kk
  · rw [if_pos (by omega)] at kk
    rw [Q1.es]
    exact c7_swing Q1 a b c d (by omega) kk
  · rw [if_neg (by omega)] at kk; exact kk
  · rw [if_neg (fun w => z w.2.1)] at kk; exact kk
  · rw [if_neg (fun w => z w.1)] at kk; exact kk
def q_ratio (σ : Sg) (f l : Int) : Int := if (0 ≤ f ∧ f < nf (gP σ)) ∧ 0 ≤ l ∧ l < lv (gP σ) f then (if csP (gP σ) (gS σ) f l = 0 then -2 else (csC (gS σ) f l * 1000).tdiv (csP (gP σ) (gS σ) f l)) else -1
theorem r_ratio (R : RG h σ) {K : Int → mH → Prop} {x1 x2 : Int} (hx : mInR x1) (hx2 : mInR x2) (k : ∀ h2, RG h2 σ → FrC h h2 → K (q_ratio σ x1 x2) h2) : OkJ M7_ratio [mR 30 0, mI x1, mI x2] h K := by
  refine s7_ratio ?_
  rintro _ rfl
  have R1 := R.th2 0
  have Q1 : Rf _ (gP σ) (gS σ) := R1.1
  have kk := k _ R1 (frC_th2 h 0)
  unfold q_ratio at kk
  have hP := csP_bd Q1.2.2.1 Q1.2.2.2 x1 x2
  have hC := csC_bd Q1.2.2.2 x1 x2
  refine c7_isLevel Q1 hx hx2 (fun a b c d => ⟨by decide, fun _ => c7_premiumsOf Q1 a b c d ⟨by omega, fun z => c7_sumC Q1 a b c d ⟨by omega, ?_⟩, fun z => ?_⟩, fun w => absurd w (by decide)⟩) (fun z => ⟨by decide, fun w => absurd rfl w, fun _ => ?_⟩)
  · rw [if_pos ⟨⟨a, b⟩, c, d⟩, if_neg z] at kk; exact kk
  · rw [if_pos ⟨⟨a, b⟩, c, d⟩, if_pos z] at kk; exact kk
  · rw [if_neg z] at kk; exact kk
def q_share (σ : Sg) (f l : Int) : Int := if (0 ≤ f ∧ f < nf (gP σ)) ∧ 0 ≤ l ∧ l < lv (gP σ) f then (if sm (pr (gP σ) (gS σ)) (gS σ 310) = 0 then -2 else (csP (gP σ) (gS σ) f l * 1000).tdiv (sm (pr (gP σ) (gS σ)) (gS σ 310))) else -1
theorem r_share (R : RG h σ) {K : Int → mH → Prop} {x1 x2 : Int} (hx : mInR x1) (hx2 : mInR x2) (k : ∀ h2, RG h2 σ → FrC h h2 → K (q_share σ x1 x2) h2) : OkI M7_share [mR 30 0, mI x1, mI x2] h K := by
  refine s7_share ?_
  rintro _ rfl
  have R1 := R.th2 0
  have Q1 : Rf _ (gP σ) (gS σ) := R1.1
  have kk := k _ R1 (frC_th2 h 0)
  unfold q_share at kk
  have hP := csP_bd Q1.2.2.1 Q1.2.2.2 x1 x2
  have hC := paid_bd Q1.2.2.1 Q1.2.2.2
  refine c7_isLevel Q1 hx hx2 (fun a b c d => ⟨by decide, fun _ => c7_paid Q1 ⟨by omega, fun z => c7_premiumsOf Q1 a b c d ⟨by omega, ?_⟩, fun z => ?_⟩, fun w => absurd w (by decide)⟩) (fun z => ⟨by decide, fun w => absurd rfl w, fun _ => ?_⟩)
  · rw [if_pos ⟨⟨a, b⟩, c, d⟩, if_neg z] at kk; exact kk
  · rw [if_pos ⟨⟨a, b⟩, c, d⟩, if_pos z] at kk; exact kk
  · rw [if_neg z] at kk; exact kk
def q_atEnd (σ : Sg) (f w : Int) : Int := if (0 ≤ f ∧ f < nf (gP σ)) ∧ 0 ≤ w ∧ w ≤ 1 then aeF (gP σ) (gS σ) f w else -1
theorem r_atEnd (R : RG h σ) {K : Int → mH → Prop} {x1 x2 : Int} (hx : mInR x1) (hx2 : mInR x2) (k : ∀ h2, RG h2 σ → FrC h h2 → K (q_atEnd σ x1 x2) h2) : OkI M7_atEnd [mR 30 0, mI x1, mI x2] h K := by
  refine s7_atEnd ?_
  rintro _ rfl
  have R1 := R.th2 0
  have Q1 : Rf _ (gP σ) (gS σ) := R1.1
  have kk := k _ R1 (frC_th2 h 0)
  unfold q_atEnd at kk
  refine c7_isFactor Q1 hx (fun a b => ⟨by decide, fun w => absurd w (by decide), fun _ => ⟨hx2, fun z => ?_, fun z => ⟨hx2, fun z2 => c7_atEnd Q1 a b (by omega) ?_, fun z2 => ?_⟩⟩⟩) (fun z => ⟨by decide, fun _ => ?_, fun w => absurd rfl w⟩)
  · rw [if_neg (by omega)] at kk; exact kk
  · rw [if_pos (by omega)] at kk; exact kk
  · rw [if_neg (by omega)] at kk; exact kk
  · rw [if_neg (fun w => z w.1)] at kk; exact kk
def q_mostOff (σ : Sg) : Int := mo (gP σ) (gS σ)
theorem r_mostOff (R : RG h σ) {K : Int → mH → Prop} (k : ∀ h2, RG h2 σ → FrC h h2 → K (q_mostOff σ) h2) : OkI M7_mostOff [mR 30 0] h K := by
  refine s7_mostOff ?_
  rintro _ rfl
  have Q1 : Rf _ (gP σ) (gS σ) := (R.th2 0).1
  refine c7_allOf Q1 (by decide) ?_
  rw [Q1.es]
  exact c7_mostOff Q1 (k _ (R.th2 0) (frC_th2 h 0))
def q_leastCap (σ : Sg) : Int := lc (gP σ) (gS σ)
theorem r_leastCap (R : RG h σ) {K : Int → mH → Prop} (k : ∀ h2, RG h2 σ → FrC h h2 → K (q_leastCap σ) h2) : OkI M7_leastCap [mR 30 0] h K := by
  refine s7_leastCap ?_
  rintro _ rfl
  have Q1 : Rf _ (gP σ) (gS σ) := (R.th2 0).1
  refine c7_allOf Q1 (by decide) ?_
  rw [Q1.es]
  exact c7_leastCap Q1 (k _ (R.th2 0) (frC_th2 h 0))
def q_of (σ : Sg) (r w : Int) : Int := if (0 ≤ r ∧ r < gS σ 310) ∧ 0 ≤ w ∧ w < 6 + nf (gP σ) then (if w = 0 then gS σ (7 * r + 0) else if w = 1 then gS σ (7 * r + 1) else if w = 2 then gS σ (7 * r + 2) else if w = 3 then pr (gP σ) (gS σ) r else if w = 4 then cpd (gP σ) (gS σ) (gS σ 309) r (byN (gP σ) (gS σ)) else if w = 5 then chg (gP σ) (gS σ) (byN (gP σ) (gS σ)) r else gS σ (7 * r + 3 + (w - 6))) else -999999999
theorem r_of (R : RG h σ) {K : Int → mH → Prop} {x1 x2 : Int} (hx : mInR x1) (hx2 : mInR x2) (k : ∀ h2, RG h2 σ → FrC h h2 → K (q_of σ x1 x2) h2) : OkJ M7_of [mR 30 0, mI x1, mI x2] h K := by
  refine s7_of ?_
  rintro _ rfl
  have R1 := R.th2 0
  have Q1 : Rf _ (gP σ) (gS σ) := R1.1
  have kk := k _ R1 (frC_th2 h 0)
  unfold q_of at kk
  have hm := Q1.m40
  have h4 := Q1.n4
  refine c7_isRisk Q1 hx (fun a b => ⟨by decide, fun w => absurd w (by decide), fun _ => ⟨hx2, fun z => ?_, fun z => c7_factors Q1 ⟨by omega, fun z2 => ?_, fun z2 => ?_⟩⟩⟩) (fun z => ⟨by decide, fun _ => ?_, fun w => absurd rfl w⟩)
  · rw [if_neg (by omega)] at kk; exact kk
  · rw [if_pos (by omega)] at kk
    have hr := Q1.2.2.2.2.1 x1 a b
    have hb := byN_bd (gP σ) (gS σ)
    rw [Q1.es]
    refine ⟨hx2, fun w => ⟨by omega, ?_⟩, fun w => ⟨by omega, ?_⟩, fun w => ⟨by omega, ?_⟩, fun w => c7_premiumOf Q1 a b ?_, fun w => c7_byNow Q1 (c7_cappedBy Q1 a b hb ?_), fun w => c7_byNow Q1 (c7_changeBy Q1 a b hb ?_), fun w => ⟨by omega, ?_⟩⟩
    · rw [if_pos w] at kk; rw [w]; exact ⟨by have := hr.1; omega, kk⟩
    · rw [if_neg (by omega), if_pos w] at kk; rw [w]; exact ⟨by have := hr.2.1; omega, kk⟩
    · rw [if_neg (by omega), if_neg (by omega), if_pos w] at kk; rw [w]; exact ⟨by have := hr.2.2.1; omega, kk⟩
    · rw [if_neg (by omega), if_neg (by omega), if_neg (by omega), if_pos w] at kk; exact kk
    · rw [if_neg (by omega), if_neg (by omega), if_neg (by omega), if_neg (by omega), if_pos w] at kk; exact kk
    · rw [if_neg (by omega), if_neg (by omega), if_neg (by omega), if_neg (by omega), if_neg (by omega), if_pos w] at kk; exact kk
    · rw [if_neg (by omega), if_neg (by omega), if_neg (by omega), if_neg (by omega), if_neg (by omega), if_neg (by omega)] at kk
      have hl := Q1.lev a b (x2 - 6) (by omega) (by omega)
      have hp2 := Q1.pf (f := x2 - 6) (by omega) (by omega)
      rw [show 7 * x1 + 3 + x2 - 6 = 7 * x1 + 3 + (x2 - 6) by omega]
      exact ⟨by omega, kk⟩
  · rw [if_neg (by omega)] at kk; exact kk
  · rw [if_neg (fun w => z w.1)] at kk; exact kk
def q_all (σ : Sg) (w : Int) : Int := if w = 0 then whl (gS σ) else if w = 1 then sm (pr (gP σ) (gS σ)) (gS σ 310) else if w = 2 then sm (fun r => gS σ (7 * r + 2)) (gS σ 310) else if w = 3 then mis (gP σ) (gS σ) else if w = 4 then sm (fun r => gS σ (7 * r + 0)) (gS σ 310) else if w = 5 then alc (gP σ) (gS σ) (gS σ 309) (byN (gP σ) (gS σ)) else -1
theorem r_all (R : RG h σ) {K : Int → mH → Prop} {x1 : Int} (hx : mInR x1) (k : ∀ h2, RG h2 σ → FrC h h2 → K (q_all σ x1) h2) : OkJ M7_all [mR 30 0, mI x1] h K := by
  refine s7_all ?_
  rintro _ rfl
  have R1 := R.th2 0
  have Q1 : Rf _ (gP σ) (gS σ) := R1.1
  have kk := k _ R1 (frC_th2 h 0)
  unfold q_all at kk
  have hb := byN_bd (gP σ) (gS σ)
  refine ⟨hx, fun w => c7_allOf Q1 (by decide) ?_, fun w => c7_paid Q1 ?_, fun w => c7_allOf Q1 (by decide) ?_, fun w => c7_misfit Q1 ?_, fun w => c7_allOf Q1 (by decide) ?_, fun w => c7_byNow Q1 (c7_allCapped Q1 hb ?_), fun w => ?_⟩
  · rw [if_pos w] at kk; exact kk
  · rw [if_neg (by omega), if_pos w] at kk; exact kk
  · rw [if_neg (by omega), if_neg (by omega), if_pos w] at kk; exact kk
  · rw [if_neg (by omega), if_neg (by omega), if_neg (by omega), if_pos w] at kk; exact kk
  · rw [if_neg (by omega), if_neg (by omega), if_neg (by omega), if_neg (by omega), if_pos w] at kk; exact kk
  · rw [if_neg (by omega), if_neg (by omega), if_neg (by omega), if_neg (by omega), if_neg (by omega), if_pos w] at kk; exact kk
  · rw [if_neg (by omega), if_neg (by omega), if_neg (by omega), if_neg (by omega), if_neg (by omega), if_neg (by omega)] at kk; exact kk
def q_changes (σ : Sg) (w : Int) : Int := if 0 ≤ w ∧ w ≤ 3 then chs (gP σ) (gS σ) w else -1
theorem r_changes (R : RG h σ) {K : Int → mH → Prop} {x1 : Int} (hx : mInR x1) (k : ∀ h2, RG h2 σ → FrC h h2 → K (q_changes σ x1) h2) : OkI M7_changes [mR 30 0, mI x1] h K := by
  refine s7_changes ?_
  rintro _ rfl
  have Q1 : Rf _ (gP σ) (gS σ) := (R.th2 0).1
  have kk := k _ (R.th2 0) (frC_th2 h 0)
  unfold q_changes at kk
  refine ⟨hx, fun z => ?_, fun z => ⟨hx, fun z2 => c7_byNow Q1 (c7_changes Q1 (by omega) ?_), fun z2 => ?_⟩⟩
  · rw [if_neg (by omega)] at kk; exact kk
  · rw [if_pos (by omega)] at kk; exact kk
  · rw [if_neg (by omega)] at kk; exact kk
def q_hardest (σ : Sg) (w : Int) : Int := if 0 ≤ w ∧ w ≤ 1 then har (gP σ) (gS σ) w else -1
theorem r_hardest (R : RG h σ) {K : Int → mH → Prop} {x1 : Int} (hx : mInR x1) (k : ∀ h2, RG h2 σ → FrC h h2 → K (q_hardest σ x1) h2) : OkI M7_hardest [mR 30 0, mI x1] h K := by
  refine s7_hardest ?_
  rintro _ rfl
  have Q1 : Rf _ (gP σ) (gS σ) := (R.th2 0).1
  have kk := k _ (R.th2 0) (frC_th2 h 0)
  unfold q_hardest at kk
  refine ⟨hx, fun z => ?_, fun z => ⟨hx, fun z2 => c7_byNow Q1 (c7_hardest Q1 (by omega) ?_), fun z2 => ?_⟩⟩
  · rw [if_neg (by omega)] at kk; exact kk
  · rw [if_pos (by omega)] at kk; exact kk
  · rw [if_neg (by omega)] at kk; exact kk
def q_ranked (σ : Sg) (w : Int) : Int := if 0 ≤ w then rkd (gP σ) (gS σ) w else -1
theorem r_ranked (R : RG h σ) {K : Int → mH → Prop} {x1 : Int} (hx : mInR x1) (k : ∀ h2, RG h2 σ → FrC h h2 → K (q_ranked σ x1) h2) : OkI M7_ranked [mR 30 0, mI x1] h K := by
  refine s7_ranked ?_
  rintro _ rfl
  have Q1 : Rf _ (gP σ) (gS σ) := (R.th2 0).1
  have kk := k _ (R.th2 0) (frC_th2 h 0)
  unfold q_ranked at kk
  refine ⟨hx, fun z => c7_byNow Q1 (c7_ranked Q1 hx ?_), fun z => ?_⟩
  · rw [if_pos z] at kk; exact kk
  · rw [if_neg z] at kk; exact kk
def q_fitted (σ : Sg) (n : Int) : Int := if 0 ≤ n ∧ n ≤ 100 then fit (gP σ) (gS σ) n else -1
theorem r_fitted (R : RG h σ) {K : Int → mH → Prop} {x1 : Int} (hx : mInR x1) (k : ∀ h2, RG h2 σ → FrC h h2 → K (q_fitted σ x1) h2) : OkI M7_fitted [mR 30 0, mI x1] h K := by
  refine s7_fitted ?_
  rintro _ rfl
  have Q1 : Rf _ (gP σ) (gS σ) := (R.th2 0).1
  have kk := k _ (R.th2 0) (frC_th2 h 0)
  have k2 := k _ ((R.th2 0).as (gS σ)) ((frC_th2 h 0).tr (frC_42 _ _))
  unfold q_fitted at kk k2
  refine ⟨hx, fun z => ?_, fun z => ⟨hx, fun z2 => c7_goesAside Q1.es (c7_fitted Q1 (by omega) ?_), fun z2 => ?_⟩⟩
  · rw [if_neg (by omega)] at kk; exact kk
  · rw [if_pos (by omega)] at k2; exact k2
  · rw [if_neg (by omega)] at kk; exact kk
theorem c7_isRounds {K : Int → mH → Prop} {x0 : Int} (hx : mInR x0) (kt : 0 ≤ x0 → x0 ≤ 50 → K 1 h) (kf : ¬ (0 ≤ x0 ∧ x0 ≤ 50) → K 0 h) : OkI M7_isRounds [mI x0] h K := s7_isRounds ⟨hx, fun z => kf (by omega), fun z => ⟨hx, fun z2 => kf (by omega), fun z2 => kt (by omega) (by omega)⟩⟩
def q_withoutFactor (σ : Sg) (f n : Int) : Int := if (0 ≤ f ∧ f < nf (gP σ)) ∧ 0 ≤ n ∧ n ≤ 50 then wf1 (gP σ) (gS σ) f n else -1
theorem r_withoutFactor (R : RG h σ) {K : Int → mH → Prop} {x1 x2 : Int} (hx : mInR x1) (hx2 : mInR x2) (k : ∀ h2, RG h2 σ → FrC h h2 → K (q_withoutFactor σ x1 x2) h2) : OkJ M7_withoutFactor [mR 30 0, mI x1, mI x2] h K := by
  refine s7_withoutFactor ?_
  rintro _ rfl
  have Q1 : Rf _ (gP σ) (gS σ) := (R.th2 0).1
  have kk := k _ (R.th2 0) (frC_th2 h 0)
  have k2 := k _ ((R.th2 0).as (gS σ)) ((frC_th2 h 0).tr (frC_42 _ _))
  unfold q_withoutFactor at kk k2
  refine c7_isFactor Q1 hx (fun a b => ⟨by decide, fun w => absurd w (by decide), fun _ => c7_isRounds hx2 (fun c d => ⟨by decide, fun _ => c7_goesAside Q1.es (c7_withoutFactor Q1 a b ⟨c, d⟩ ?_), fun w => absurd w (by decide)⟩) (fun z => ⟨by decide, fun w => absurd rfl w, fun _ => ?_⟩)⟩) (fun z => ⟨by decide, fun _ => ?_, fun w => absurd rfl w⟩)
  · rw [if_pos ⟨⟨a, b⟩, c, d⟩] at k2; exact k2
  · rw [if_neg (fun w => z w.2)] at kk; exact kk
  · rw [if_neg (fun w => z w.1)] at kk; exact kk
def q_bestJoin (σ : Sg) (f n : Int) : Int := if (0 ≤ f ∧ f < nf (gP σ)) ∧ 0 ≤ n ∧ n ≤ 50 then bj (gP σ) (gS σ) f n else -1
theorem r_bestJoin (R : RG h σ) {K : Int → mH → Prop} {x1 x2 : Int} (hx : mInR x1) (hx2 : mInR x2) (k : ∀ h2, RG h2 σ → FrC h h2 → K (q_bestJoin σ x1 x2) h2) : OkI M7_bestJoin [mR 30 0, mI x1, mI x2] h K := by
  refine s7_bestJoin ?_
  rintro _ rfl
  have Q1 : Rf _ (gP σ) (gS σ) := (R.th2 0).1
  have kk := k _ (R.th2 0) (frC_th2 h 0)
  have k2 := k _ ((R.th2 0).as (gS σ)) ((frC_th2 h 0).tr (frC_42 _ _))
  unfold q_bestJoin at kk k2
  refine c7_isFactor Q1 hx (fun a b => ⟨by decide, fun w => absurd w (by decide), fun _ => c7_isRounds hx2 (fun c d => ⟨by decide, fun _ => c7_goesAside Q1.es (c7_bestJoin Q1 a b ⟨c, d⟩ ?_), fun w => absurd w (by decide)⟩) (fun z => ⟨by decide, fun w => absurd rfl w, fun _ => ?_⟩)⟩) (fun z => ⟨by decide, fun _ => ?_, fun w => absurd rfl w⟩)
  · rw [if_pos ⟨⟨a, b⟩, c, d⟩] at k2; exact k2
  · rw [if_neg (fun w => z w.2)] at kk; exact kk
  · rw [if_neg (fun w => z w.1)] at kk; exact kk
def q_withoutRisk (σ : Sg) (r n : Int) : Int := if (0 ≤ r ∧ r < gS σ 310) ∧ 0 ≤ n ∧ n ≤ 50 then rbS (gP σ) (rn (gP σ) (-1) n (goS (gS σ) r)) 308 else -1
theorem r_withoutRisk (R : RG h σ) {K : Int → mH → Prop} {x1 x2 : Int} (hx : mInR x1) (hx2 : mInR x2) (k : ∀ h2, RG h2 σ → FrC h h2 → K (q_withoutRisk σ x1 x2) h2) : OkI M7_withoutRisk [mR 30 0, mI x1, mI x2] h K := by
  refine s7_withoutRisk ?_
  rintro _ rfl
  have Q1 : Rf _ (gP σ) (gS σ) := (R.th2 0).1
  have kk := k _ (R.th2 0) (frC_th2 h 0)
  have k2 := k _ ((R.th2 0).as (gS σ)) ((frC_th2 h 0).tr (frC_42 _ _))
  unfold q_withoutRisk at kk k2
  refine c7_isRisk Q1 hx (fun a b => ⟨by decide, fun w => absurd w (by decide), fun _ => c7_isRounds hx2 (fun c d => ⟨by decide, fun _ => c7_goesAside Q1.es ?_, fun w => absurd w (by decide)⟩) (fun z => ⟨by decide, fun w => absurd rfl w, fun _ => ?_⟩)⟩) (fun z => ⟨by decide, fun _ => ?_, fun w => absurd rfl w⟩)
  · rw [if_pos ⟨⟨a, b⟩, c, d⟩] at k2
    have hw := goS_wf Q1.2.2.1 Q1.2.2.2 a b
    have hw2 := rn_wf Q1.2.2.1 hw (-1) x2
    refine c7_goes Q1.as a b (c7_rounds (Q1.as.row hw) (by omega) (by decide) ?_)
    rw [rs_rs]
    refine c7_rebases (Q1.as.row hw2) ?_
    rw [rs_rs, rs_same]
    refine c7_comesBack (by rw [rs_r (by decide), rs_same]) ?_
    rw [aside_back Q1.es]
    exact k2
  · rw [if_neg (fun w => z w.2)] at kk; exact kk
  · rw [if_neg (fun w => z w.1)] at kk; exact kk
end REF16
