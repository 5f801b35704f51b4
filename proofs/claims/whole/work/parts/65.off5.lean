/-! the class: questions with loops of their own -/
section OFF5
variable {h h2 : mH} {σ : Sg}
theorem m_of (C : CG h σ) {K : Int → mH → Prop} {x1 x2 : Int} (hx : mInR x1) (hx2 : mInR x2) (k : ∀ h2, CG h2 σ → FrM h h2 → K (q_of σ x1 x2) h2) : OkJ M6_of [mR 25 0, mI x1, mI x2] h K := by
  have P := C.1
  have B := C.2.1
  have h4 := P.n4
  have hm := B.m40
  have kk := k h C (FrM.rf h)
  have k2 := fun h2 (F : FrQ h h2) => k h2 (C.q F) F.mm
  unfold q_of at kk k2
  refine s6_of (k0_hasRisk B hx (fun a b => ⟨by decide, fun _ => ?_, fun w => absurd w (by decide)⟩) (fun z => ⟨by decide, fun w => absurd rfl w, fun _ => ?_⟩))
  · have hr := B.rk a b
    have hw := B.wf.2.1 x1 a b
    have w1 := hw.1
    have w2 := hw.2.1
    have w3 := hw.2.2.1
    have hpk := pkL_bd B.wp B.wf a b
    rw [hr.1, hr.2.1, hr.2.2.1, P.n]
    refine ⟨hx2, fun w => ⟨by omega, by omega, ?_⟩, fun w => ⟨by omega, by omega, ?_⟩, fun w => ⟨by omega, by omega, ?_⟩, fun w => k2_premiumOf P B a b ?_, fun w => k1_settle P B (fun h2 D Cc F => ⟨by omega, ?_⟩), fun w => k1_settle P B (fun h2 D Cc F => k1_changeOf (F.bk (by decide) B) Cc a b ?_), fun w => k_within hx2 (by decide) (by omega) (fun e f => ⟨by decide, fun w => absurd w (by decide), fun _ => ⟨by omega, ?_⟩⟩) (fun z => ⟨by decide, fun _ => ?_, fun w => absurd rfl w⟩)⟩
    · rw [if_pos (by omega), if_pos w] at kk; exact kk
    · rw [if_pos (by omega), if_neg (by omega), if_pos w] at kk; exact kk
    · rw [if_pos (by omega), if_neg (by omega), if_neg (by omega), if_pos w] at kk; exact kk
    · rw [if_pos (by omega), if_neg (by omega), if_neg (by omega), if_neg (by omega), if_pos w] at kk; exact kk
    · have k3 := k2 h2 F
      rw [if_pos (by omega), if_neg (by omega), if_neg (by omega), if_neg (by omega), if_neg (by omega), if_pos w] at k3
      rw [Cc.2 x1 a b]
      exact k3
    · have k3 := k2 h2 F
      rw [if_pos (by omega), if_neg (by omega), if_neg (by omega), if_neg (by omega), if_neg (by omega), if_neg (by omega), if_pos w] at k3
      exact k3
    · rw [if_pos (by omega), if_neg (by omega), if_neg (by omega), if_neg (by omega), if_neg (by omega), if_neg (by omega), if_neg (by omega)] at kk
      have hl := hw.2.2.2 (x2 - 6) (by omega) (by omega)
      have hl2 := hl.2.1 (by omega)
      have hp2 := P.pf (f := x2 - 6) (by omega) (by omega)
      rw [hr.2.2.2]
      refine k_levelIn (by omega) (by omega) ?_
      rw [pkL_dg B.wp B.wf a b (by omega) (by omega)]
      exact ⟨by omega, kk⟩
    · rw [if_neg (by omega)] at kk; exact kk
  · rw [if_neg (fun w => z w.1)] at kk; exact kk
section P13
variable {b : Int} {p : Pn} {s nm : Int → Int}
theorem k2_price13 (P : Pl h 0 p nm) (B : Bk h b p s) {K : mH → Prop} (k : ∀ g, Pd (rs h 13 b g) b p s → K (rs h 13 b g)) : OkV M2_price [mR 12 b] h K := by
  have hm := B.m40
  have key := upI (P := fun r => A2_price_2 K b r (rs h 13 b (fun j => if 0 ≤ j ∧ j < r then pr p s j else h 13 b j))) (n := s 310) ?_ (fun r h5 h6 ih => ?_) 0 (by omega) (by omega)
  · have e : (fun j => if 0 ≤ j ∧ j < 0 then pr p s j else h 13 b j) = h 13 b := by
      funext j
      rw [if_neg (by omega)]
    rw [e, rs_self] at key
    exact s2_price key
  · refine s2_price_2 ?_
    rw [rs_r (by decide), B.m]
    refine ⟨by omega, fun _ => k _ (fun r a c => ?_), fun z => absurd (Int.le_refl _) z⟩
    rw [rs_same, if_pos ⟨a, c⟩]
  · have F := frF_rs (b := b) (h := h) (r := 13) (f := fun j => if 0 ≤ j ∧ j < r then pr p s j else h 13 b j) (by decide)
    refine s2_price_2 ?_
    have em : rs h 13 b (fun j => if 0 ≤ j ∧ j < r then pr p s j else h 13 b j) 1 b 0 = s 310 := by rw [rs_r (by decide), B.m]
    rw [em]
    refine ⟨by omega, fun z => by omega, fun _ => ⟨by omega, by omega, k2_pr (F.pl P) (F.bk B) h5 h6 ⟨by omega, ?_⟩⟩⟩
    rintro _ rfl
    rw [mSet_rs, rs_same, rs_rs]
    have e : up (fun j => if 0 ≤ j ∧ j < r then pr p s j else h 13 b j) r (pr p s r) = (fun j => if 0 ≤ j ∧ j < r + 1 then pr p s j else h 13 b j) := by
      funext j
      unfold up
      by_cases c : j = r
      · rw [if_pos c, if_pos (by omega), c]
      · rw [if_neg c]
        dsimp only
        by_cases d : 0 ≤ j ∧ j < r
        · rw [if_pos d, if_pos (by omega)]
        · rw [if_neg d, if_neg (by omega)]
    rw [e]
    exact ih
theorem k2_sumPaid13 (P : Pl h 0 p nm) (B : Bk h b p s) {K : Int → mH → Prop} (k : ∀ g, K (sm (pr p s) (s 310)) (rs h 13 b g)) : OkJ M2_sumPaid [mR 12 b] h K := by
  have hm := B.m40
  refine s2_sumPaid (k2_price13 P B (fun g D => ?_))
  have F : FrF b h (rs h 13 b g) := frF_rs (by decide)
  have B2 := F.bk B
  refine upI (P := fun r => A2_sumPaid_8 K b (sm (pr p s) r) r (rs h 13 b g)) (n := s 310) ?_ (fun r h5 h6 ih => ?_) 0 (by omega) (by omega)
  · refine s2_sumPaid_8 ?_
    rw [B2.m]
    exact ⟨by omega, fun _ => k g, fun z => absurd (Int.le_refl _) z⟩
  · rw [sm_s _ h5] at ih
    refine s2_sumPaid_8 ?_
    rw [B2.m, D r h5 h6]
    exact ⟨by omega, fun z => by omega, fun _ => ⟨by omega, ih⟩⟩
end P13
theorem m_share (C : CG h σ) {K : Int → mH → Prop} {x1 x2 : Int} (hx : mInR x1) (hx2 : mInR x2) (k : ∀ h2, CG h2 σ → FrM h h2 → K (q_share σ x1 x2) h2) : OkI M6_share [mR 25 0, mI x1, mI x2] h K := by
  have P := C.1
  have B := C.2.1
  have h4 := P.n4
  have hP := csP_bd B.wp B.wf x1 x2
  have hpd := paid_bd B.wp B.wf
  refine s6_share (k3_hasLevel P hx hx2 (fun a b c d => ⟨by decide, fun _ => k2_measure P B a b (fun h2 G D F => k2_sumPaid13 (F.pl P) (F.bk B) (fun g => ?_)), fun w => absurd w (by decide)⟩) (fun z => ⟨by decide, fun w => absurd rfl w, fun _ => ?_⟩))
  · have F3 : FrF 0 h2 (rs h2 13 0 g) := frF_rs (by decide)
    have F4 := F.tr F3
    have kk := k _ (C.q F4.q) F4.q.mm
    unfold q_share at kk
    rw [if_pos ⟨⟨a, b⟩, c, d⟩] at kk
    have hb := P.pf a b
    have hf := fs_le (s := gS σ) (f := x1) c
    have hg := G _ hf.1 (by omega) (fs_fs (gS σ) x1 x2)
    have e2 : csP (gP σ) (gS σ) x1 (fs (gS σ) x1 x2) = csP (gP σ) (gS σ) x1 x2 := cs_fs _ _ _ _
    refine ⟨by omega, fun z => k0_firstOf (F4.bk B).j h4.2 a b c (by omega) (k_slot (by omega) (by omega) ⟨by omega, ?_⟩), fun z => ?_⟩
    · rw [rs_r (by decide), hg.2.1, e2]
      rw [if_neg (by omega)] at kk
      exact ⟨by omega, kk⟩
    · rw [if_pos (by omega)] at kk; exact kk
  · have kk := k h C (FrM.rf h)
    unfold q_share at kk
    rw [if_neg z] at kk; exact kk
theorem m_changes (C : CG h σ) {K : Int → mH → Prop} {x1 : Int} (hx : mInR x1) (k : ∀ h2, CG h2 σ → FrM h h2 → K (q_changes σ x1) h2) : OkI M6_changes [mR 25 0, mI x1] h K := by
  have P := C.1
  have B := C.2.1
  have hm := B.m40
  refine s6_changes (k_within hx (by decide) (by decide) (fun a b => ⟨by decide, fun _ => k1_settle P B (fun h2 D Cc F => ?_), fun w => absurd w (by decide)⟩) (fun z => ⟨by decide, fun w => absurd rfl w, fun _ => ?_⟩))
  · have kk := k h2 (C.q F) F.mm
    unfold q_changes at kk
    rw [if_pos ⟨a, b⟩] at kk
    have B2 := F.bk (c := 0) (by decide) B
    refine upI (P := fun r => A6_changes_22 K x1 (sm (fun r => if chP (gP σ) (gS σ) x1 (byN (gP σ) (gS σ)) r then 1 else 0) r) r h2) (n := gS σ 310) ?_ (fun r h5 h6 ih => ?_) 0 (by omega) (by omega)
    · refine s6_changes_22 ?_
      rw [B2.m]
      exact ⟨by omega, fun _ => kk, fun z => absurd (Int.le_refl _) z⟩
    · rw [sm_s _ h5] at ih
      refine s6_changes_22 ?_
      rw [B2.m]
      refine ⟨by omega, fun z => by omega, fun _ => k1_isChanged B2 D Cc h5 h6 ⟨a, b⟩ (fun z => ⟨by decide, fun w => absurd w (by decide), fun _ => ?_⟩) (fun z => ⟨by decide, fun _ => ?_, fun w => absurd rfl w⟩)⟩
      · rw [if_pos z] at ih; exact ih
      · rw [z] at ih; simpa using ih
  · have kk := k h C (FrM.rf h)
    unfold q_changes at kk
    rw [if_neg z] at kk; exact kk
theorem m_ranked (C : CG h σ) {K : Int → mH → Prop} {x1 : Int} (hx : mInR x1) (k : ∀ h2, CG h2 σ → FrM h h2 → K (q_ranked σ x1) h2) : OkI M6_ranked [mR 25 0, mI x1] h K := by
  have P := C.1
  have B := C.2.1
  have hm := B.m40
  refine s6_ranked ⟨hx, fun z => k1_settle P B (fun h2 D Cc F => ?_), fun z => ?_⟩
  · have kk := k h2 (C.q F) F.mm
    unfold q_ranked at kk
    rw [if_pos z] at kk
    have B2 := F.bk (c := 0) (by decide) B
    refine upI (P := fun r => (∀ j, 0 ≤ j → j < r → decide (rk (gP σ) (gS σ) j = x1) = false) → A6_ranked_15 K x1 r h2) (n := gS σ 310) (fun hj => ?_) (fun r h5 h6 ih hj => ?_) 0 (by omega) (by omega) (fun j a b => by omega)
    · rw [show rkd (gP σ) (gS σ) x1 = -2 from ls_no hj] at kk
      refine s6_ranked_15 ?_
      rw [B2.m]
      exact ⟨by omega, fun _ => kk, fun z => absurd (Int.le_refl _) z⟩
    · have hb := rk_bd (p := gP σ) B.wf r hm.1 (Int.le_refl _)
      refine s6_ranked_15 ?_
      rw [B2.m]
      refine ⟨by omega, fun z => by omega, fun _ => k1_rankOf B2 Cc h5 h6 ⟨⟨⟨by unfold rk; omega, by unfold rk; omega⟩, hx⟩, fun z2 => ih (fun j a c => ?_), fun z2 => ?_⟩⟩
      · by_cases d : j = r
        · rw [d]; exact decide_eq_false z2
        · exact hj j a (by omega)
      · rw [show rkd (gP σ) (gS σ) x1 = r from ls_yes h5 h6 (decide_eq_true z2) hj] at kk
        exact kk
  · have kk := k h C (FrM.rf h)
    unfold q_ranked at kk
    rw [if_neg z] at kk; exact kk
end OFF5
