/-! the class: its whole state; what is remembered -/
def sgb (v : Int) : Int := if v < 128 then v else v - 256
def CU (h : mH) (p : Pn) (u : Int) (pa : Int → Int → Int) : Prop := (0 ≤ h 25 0 14 ∧ h 25 0 14 < 20) ∧ h 25 0 15 = u ∧ (0 ≤ u ∧ u ≤ 20) ∧ ∀ k, 0 ≤ k → k < u → Bk h (4 + (h 25 0 14 + k) % 20) p (pa k)
def CI (h : mH) (p : Pn) (fi : Int) (im : Int → Int) : Prop := h 25 0 12 = fi ∧ (fi = 0 ∨ fi = 1) ∧ (fi = 1 → Bk h 3 p im)
def CT (h : mH) (t : Int) (tp : Int → Int) : Prop := h 25 0 1 = t ∧ (0 ≤ t ∧ t ≤ 900) ∧ ∀ j, 0 ≤ j → j < t → h 26 0 j = sgb (tp j) ∧ 0 ≤ tp j ∧ tp j ≤ 255
def CF (h : mH) (fk fp : Int) : Prop := h 25 0 2 = fk ∧ h 25 0 3 = fp ∧ mInR fk ∧ mInR fp
/-- all that the class knows -/
def CG (h : mH) (σ : Sg) : Prop := Pl h 0 (gP σ) (gN σ) ∧ Bk h 0 (gP σ) (gS σ) ∧ CI h (gP σ) (gI σ).1 (gI σ).2 ∧ CU h (gP σ) (gU σ).1 (gU σ).2 ∧ CT h (gT σ).1 (gT σ).2 ∧ CF h (gF σ).1 (gF σ).2
/-- the reference's cells are as they were -/
def FrM (h h2 : mH) : Prop := ∀ r, 30 ≤ r → ∀ i, h2 r i = h r i
theorem FrM.rf (h : mH) : FrM h h := fun _ _ _ => rfl
theorem FrM.tr {h h2 h3 : mH} (a : FrM h h2) (b : FrM h2 h3) : FrM h h3 := fun r hr i => (b r hr i).trans (a r hr i)
theorem FrQ.mm {h h2 : mH} (F : FrQ h h2) : FrM h h2 := fun r hr i => F r i (by omega) (by omega)
theorem FrY.mm {b : Int} {h h2 : mH} (F : FrY b h h2) : FrM h h2 := fun r hr i => F r i (fun w => by have := w.1; omega)
theorem FrB.mm {b : Int} {h h2 : mH} (F : FrB b h h2) : FrM h h2 := F.y.mm
theorem frM_rs {h : mH} {r : Nat} {i : Int} {f : Int → Int} (hr : r < 30) : FrM h (rs h r i f) := fun q hq j => rs_r (by omega)
section OFF1
variable {h h2 : mH} {σ : Sg}
/-- a question leaves the state -/
theorem CG.q (C : CG h σ) (F : FrQ h h2) : CG h2 σ := by
  obtain ⟨c1, c2, ⟨i1, i2, i3⟩, ⟨u0, u1, u2, u3⟩, ⟨t1, t2, t3⟩, c6⟩ := C
  have e25 : h2 25 0 = h 25 0 := F 25 0 (by decide) (by decide)
  have e26 : h2 26 0 = h 26 0 := F 26 0 (by decide) (by decide)
  refine ⟨F.pl c1, F.bk (by decide) c2, ?_, ?_, ?_, ?_⟩
  · unfold CI; rw [e25]; exact ⟨i1, i2, fun z => F.bk (by decide) (i3 z)⟩
  · unfold CU; rw [e25]; exact ⟨u0, u1, u2, fun k a b => F.bk (by omega) (u3 k a b)⟩
  · unfold CT; rw [e25, e26]; exact ⟨t1, t2, t3⟩
  · unfold CF; rw [e25]; exact c6
/-- another live book -/
theorem CG.bk (C : CG h σ) (F : FrY 0 h h2) {s2 : Int → Int} (B : Bk h2 0 (gP σ) s2) : CG h2 (toS σ s2) := by
  obtain ⟨c1, c2, ⟨i1, i2, i3⟩, ⟨u0, u1, u2, u3⟩, ⟨t1, t2, t3⟩, c6⟩ := C
  have e25 : h2 25 0 = h 25 0 := F 25 0 (by omega)
  have e26 : h2 26 0 = h 26 0 := F 26 0 (by omega)
  refine ⟨F.pl c1, B, ?_, ?_, ?_, ?_⟩
  · unfold CI; rw [e25]; exact ⟨i1, i2, fun z => F.bk (by decide) (i3 z)⟩
  · unfold CU; rw [e25]; exact ⟨u0, u1, u2, fun k a b => F.bk (by omega) (u3 k a b)⟩
  · unfold CT; rw [e25, e26]; exact ⟨t1, t2, t3⟩
  · unfold CF; rw [e25]; exact c6
theorem m_push (C : CG h σ) {K : mH → Prop} (k : ∀ h2, CG h2 (pus σ) → FrM h h2 → K h2) : OkV M6_remember [mR 25 0] h K := by
  obtain ⟨c1, c2, ⟨i1, i2, i3⟩, ⟨u0, u1, u2, u3⟩, ⟨t1, t2, t3⟩, c6⟩ := C
  have tail : ∀ (g : Int → Int) (v : Int) (pb : Int → Int → Int), (∀ j, j ≠ 14 → j ≠ 15 → g j = h 25 0 j) → (0 ≤ g 14 ∧ g 14 < 20) → g 15 = v → (0 ≤ v ∧ v ≤ 19) → (∀ q, 0 ≤ q → q < v → Bk h (4 + (g 14 + q) % 20) (gP σ) (pb q)) → (∀ q, 0 ≤ q → q < v → puP (gU σ).1 (gU σ).2 (gS σ) q = pb q) → puP (gU σ).1 (gU σ).2 (gS σ) v = gS σ → v + 1 = puU (gU σ).1 → A6_remember_28 K (rs h 25 0 g) := by
    intro g v pb hg h14 h15 hv hb hq hs hu
    have e25 : rs h 25 0 g 25 0 = g := rs_same _ _ _ _
    refine s6_remember_28 ?_
    rw [e25, h15]
    refine s6_historyIndex ?_
    rw [e25, Int.tmod_eq_emod_of_nonneg (show 0 ≤ g 14 + v by omega)]
    refine ⟨by omega, by omega, k0_copyFrom (c := 0) (b := 4 + (g 14 + v) % 20) (by omega) (fun h2 Bc F => ?_)⟩
    rintro _ rfl
    have Fo : ∀ r j, ¬ (1 ≤ r ∧ r ≤ 6 ∧ j = 4 + (g 14 + v) % 20) → r ≠ 25 → h2 r j = h r j := fun r j z w => by rw [F r j z, rs_r w]
    have f25 : h2 25 0 = g := by rw [F 25 0 (by omega), e25]
    have e15 : h2 25 0 15 = v := by rw [f25]; exact h15
    rw [e15, mSet_rs, f25]
    have Fz : ∀ r j, ¬ (1 ≤ r ∧ r ≤ 6 ∧ j = 4 + (g 14 + v) % 20) → r ≠ 25 → rs h2 25 0 (up g 15 (v + 1)) r j = h r j := fun r j z w => by rw [rs_r w]; exact Fo r j z w
    have bkO : ∀ {c : Int} {t : Int → Int}, c ≠ 4 + (g 14 + v) % 20 → Bk h c (gP σ) t → Bk (rs h2 25 0 (up g 15 (v + 1))) c (gP σ) t := fun hc B => B.fr (fun r a d => Fz r _ (by omega) (by omega))
    have g25 : rs h2 25 0 (up g 15 (v + 1)) 25 0 = up g 15 (v + 1) := rs_same _ _ _ _
    refine k _ ⟨c1.fr (fun r a d => Fz r 0 (by omega) (by omega)), bkO (by omega) c2, ?_, ?_, ?_, ?_⟩ (fun r hr i => Fz r i (by omega) (by omega))
    · unfold CI
      rw [g25, up_ne (by decide), hg 12 (by decide) (by decide)]
      exact ⟨i1, i2, fun z => bkO (by omega) (i3 z)⟩
    · unfold CU
      rw [g25, up_ne (by decide), up_same]
      refine ⟨h14, hu, ?_, fun q a d => ?_⟩
      · show 0 ≤ puU (gU σ).1 ∧ puU (gU σ).1 ≤ 20
        omega
      · have d2 : q < puU (gU σ).1 := d
        show Bk _ _ _ (puP (gU σ).1 (gU σ).2 (gS σ) q)
        by_cases e : q = v
        · rw [e, hs]
          have B0 : Bk (rs h 25 0 g) 0 (gP σ) (gS σ) := c2.fr (fun r a d => rs_r (by omega))
          exact (Bc _ _ B0).fr (fun r a d => rs_r (by omega))
        · rw [hq q a (by omega)]
          exact bkO (by omega) (hb q a (by omega))
    · unfold CT
      rw [g25, up_ne (by decide), hg 1 (by decide) (by decide), Fz 26 0 (by omega) (by decide)]
      exact ⟨t1, t2, t3⟩
    · unfold CF
      rw [g25, up_ne (by decide), up_ne (by decide), hg 2 (by decide) (by decide), hg 3 (by decide) (by decide)]
      exact c6
  refine s6_remember ?_
  rw [u1]
  refine ⟨by omega, fun z => ?_, fun z => ⟨by omega, ?_⟩⟩
  · have key := tail (h 25 0) (gU σ).1 (gU σ).2 (fun _ _ _ => rfl) u0 u1 (by omega) u3 (fun q a d => ?_) ?_ ?_
    · rw [rs_self] at key; exact key
    · unfold puP; rw [if_neg (by omega), if_neg (by omega)]
    · unfold puP; rw [if_neg (by omega), if_pos rfl]
    · unfold puU; rw [if_neg (by omega)]
  · rintro _ rfl _ rfl
    have hu : (gU σ).1 = 20 := by omega
    rw [mSet_rs, mSet_rs, rs_same, rs_rs, Int.tmod_eq_emod_of_nonneg (show 0 ≤ h 25 0 14 + 1 by omega)]
    have e14 : up (up (h 25 0) 14 ((h 25 0 14 + 1) % 20)) 15 19 14 = (h 25 0 14 + 1) % 20 := by rw [up_ne (by decide), up_same]
    refine tail _ 19 (fun q => (gU σ).2 (q + 1)) (fun j a d => by rw [up_ne d, up_ne a]) (by rw [e14]; omega) (up_same _ _ _) (by decide) (fun q a d => ?_) (fun q a d => ?_) ?_ ?_
    · rw [e14, show ((h 25 0 14 + 1) % 20 + q) % 20 = (h 25 0 14 + (q + 1)) % 20 by omega]
      exact u3 (q + 1) (by omega) (by omega)
    · unfold puP; rw [if_pos hu, if_neg (by omega)]
    · unfold puP; rw [if_pos hu, if_pos rfl]
    · unfold puU; rw [if_pos hu]; rfl
/-! undoable calls -/
theorem m_turn (C : CG h σ) {K : Int → mH → Prop} {x1 : Int} (hx : mInR x1) (k1 : 0 ≤ x1 → x1 < nf (gP σ) → ∀ h2, CG h2 (toS (pus σ) (tuS (gP σ) (gS σ) x1)) → FrM h h2 → K (tc (gP σ) (gS σ) x1) h2) (k0 : ¬ (0 ≤ x1 ∧ x1 < nf (gP σ)) → ∀ h2, CG h2 σ → FrM h h2 → K (-1) h2) : OkI M6_turn [mR 25 0, mI x1] h K :=
  s6_turn (k3_hasFactor C.1 hx (fun a b => ⟨by decide, fun _ => m_push C (fun h2 C2 F2 => k2_turnOnce C2.1 C2.2.1 a b (fun h3 B3 F3 => k1 a b h3 (C2.bk F3 B3) (F2.tr F3.mm))), fun w => absurd w (by decide)⟩) (fun z => ⟨by decide, fun w => absurd rfl w, fun _ => k0 z h C (FrM.rf h)⟩))
theorem m_round (C : CG h σ) {K : Int → mH → Prop} {x1 : Int} (hx : mInR x1) (k1 : 1 ≤ x1 → x1 ≤ 50 → ∀ h2, CG h2 (toS (pus σ) (rn (gP σ) (-1) x1 (gS σ))) → FrM h h2 → K (unb (gP σ) (rn (gP σ) (-1) x1 (gS σ))) h2) (k0 : ¬ (1 ≤ x1 ∧ x1 ≤ 50) → ∀ h2, CG h2 σ → FrM h h2 → K (-1) h2) : OkI M6_round [mR 25 0, mI x1] h K := by
  refine s6_round (k_within hx (by decide) (by decide) (fun a b => ⟨by decide, fun _ => m_push C (fun h2 C2 F2 => k2_playRounds C2.1 C2.2.1 (by omega) (by decide) (fun h3 m _ _ B3 F3 => ?_)), fun w => absurd w (by decide)⟩) (fun z => ⟨by decide, fun w => absurd rfl w, fun _ => k0 z h C (FrM.rf h)⟩))
  have C3 := C2.bk F3 B3
  exact k2_countUnbalanced C3.1 B3 (fun h4 F4 => k1 a b h4 (C3.q F4.q) ((F2.tr F3.mm).tr F4.q.mm))
theorem m_rebase (C : CG h σ) {K : Int → mH → Prop} (k : ∀ h2, CG h2 (toS (pus σ) (rbS (gP σ) (gS σ))) → FrM h h2 → K (rbS (gP σ) (gS σ) 308) h2) : OkI M6_rebase [mR 25 0] h K := by
  refine s6_rebase (m_push C (fun h2 C2 F2 => k2_rebase C2.1 C2.2.1 (fun h3 B3 F3 => ?_)))
  rw [B3.1.2.1]
  exact k h3 (C2.bk F3 B3) (F2.tr F3.mm)
theorem m_level (C : CG h σ) {K : Int → mH → Prop} (k : ∀ h2, CG h2 (toS (pus σ) (lvS (gP σ) (gS σ))) → FrM h h2 → K (lvS (gP σ) (gS σ) 308) h2) : OkI M6_level [mR 25 0] h K := by
  refine s6_level (m_push C (fun h2 C2 F2 => k2_level C2.1 C2.2.1 (fun h3 B3 F3 => ?_)))
  rw [B3.1.2.1]
  exact k h3 (C2.bk F3 B3) (F2.tr F3.mm)
theorem m_drop (C : CG h σ) {K : Int → mH → Prop} {x1 : Int} (hx : mInR x1) (k1 : VR σ x1 → ∀ h2, CG h2 (toS (pus σ) (goS (gS σ) x1)) → FrM h h2 → K (gS σ 310 - 1) h2) (k0 : ¬ VR σ x1 → ∀ h2, CG h2 σ → FrM h h2 → K (-1) h2) : OkI M6_drop [mR 25 0, mI x1] h K := by
  refine s6_drop (k0_hasRisk C.2.1 hx (fun a b => ⟨by decide, fun _ => m_push C (fun h2 C2 F2 => k0_removeRisk C2.2.1 a b (fun h3 B3 F3 => ?_)), fun w => absurd w (by decide)⟩) (fun z => ⟨by decide, fun w => absurd rfl w, fun _ => k0 z h C (FrM.rf h)⟩))
  rw [B3.m, show goS (gS (pus σ)) x1 310 = gS σ 310 - 1 from by unfold goS; rw [if_pos rfl]; rfl]
  exact k1 ⟨a, b⟩ h3 (C2.bk F3.y B3) (F2.tr F3.mm)
end OFF1
