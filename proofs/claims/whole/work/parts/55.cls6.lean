/-! the class: counts over all levels -/
section CLS6
variable {h h2 : mH} {b : Int} {p : Pn} {s nm : Int → Int}
theorem FrF.pd {h3 : mH} (D : Pd h b p s) (e : h3 13 b = h 13 b) : Pd h3 b p s := fun r a c => by rw [e]; exact D r a c
theorem k2_countUnbalanced (P : Pl h 0 p nm) (B : Bk h b p s) {K : Int → mH → Prop} (k : ∀ h2, FrF b h h2 → K (unb p s) h2) : OkI M2_countUnbalanced [mR 12 b] h K := by
  have h4 := P.n4
  refine s2_countUnbalanced (k2_price P B (fun h1 D1 F1 => ?_))
  refine upI (P := fun f => ∀ h', Pd h' b p s → FrF b h h' → A2_countUnbalanced_8 K b (sm (unF p s) f) f h') (n := nf p) (fun h' D F => ?_) (fun f h5 h6 ih h' D F => ?_) 0 (by omega) (by omega) h1 D1 F1
  · refine s2_countUnbalanced_8 ?_
    rw [(F.pl P).n]
    exact ⟨by omega, fun _ => k h' F, fun z => absurd (Int.le_refl _) z⟩
  · have hb := P.pf h5 h6
    refine s2_countUnbalanced_8 ?_
    rw [(F.pl P).n]
    refine ⟨by omega, fun z => by omega, fun _ => k2_gather (F.bk B) D h5 h6 (fun h3 G D3 F3 => ?_)⟩
    have F4 := F.tr F3
    have ih3 := ih h3 D3 F4
    rw [sm_s _ h5] at ih3
    have key := upI (P := fun l => A2_countUnbalanced_26 K b (sm (unF p s) f + sm (unL p s f) l) f l h3) (n := lv p f) ?_ (fun l h7 h8 jh => ?_) 0 (by omega) (by omega)
    · rw [sm_0, Int.add_zero] at key; exact key
    · refine s2_countUnbalanced_26 ⟨by omega, ?_⟩
      rw [(F4.pl P).lv h5 h6]
      exact ⟨by omega, fun _ => ih3, fun z => absurd (Int.le_refl _) z⟩
    · rw [sm_s _ h7, ← Int.add_assoc] at jh
      refine s2_countUnbalanced_26 ⟨by omega, ?_⟩
      rw [(F4.pl P).lv h5 h6]
      refine ⟨by omega, fun z => by omega, fun _ => k2_isOff (F4.pl P) (F4.bk B) h5 h6 G h7 h8 (fun z1 z2 => ⟨by decide, fun w => absurd w (by decide), fun _ => ?_⟩) (fun z => ⟨by decide, fun _ => ?_, fun w => absurd rfl w⟩)⟩
      · rw [show unL p s f l = 1 from if_pos ⟨z1, z2⟩] at jh; exact jh
      · rw [show unL p s f l = 0 from if_neg z, Int.add_zero] at jh; exact jh
theorem miL_0 (hp : WfP p) (hs : WfS p s) {f l : Int} (z : ¬ (fs s f l = l ∧ ¬ csR s f l = 0)) : miL p s f l = 0 := by
  unfold miL
  split
  · rename_i e
    have e2 : csR s f l = 0 := by
      by_cases c : csR s f l = 0
      · exact c
      · exact absurd ⟨e, c⟩ z
    have c1 : csC s f l = 0 := cs_none e2 _
    have c2 : csP p s f l = 0 := cs_none e2 _
    rw [c1, c2]
    rfl
  · rfl
theorem k2_sumMisfit (P : Pl h 0 p nm) (B : Bk h b p s) {K : Int → mH → Prop} (k : ∀ h2, FrF b h h2 → K (mis p s) h2) : OkJ M2_sumMisfit [mR 12 b] h K := by
  have h4 := P.n4
  refine s2_sumMisfit (k2_price P B (fun h1 D1 F1 => ?_))
  refine upI (P := fun f => ∀ h', Pd h' b p s → FrF b h h' → A2_sumMisfit_8 K b (sm (miF p s) f) f h') (n := nf p) (fun h' D F => ?_) (fun f h5 h6 ih h' D F => ?_) 0 (by omega) (by omega) h1 D1 F1
  · refine s2_sumMisfit_8 ?_
    rw [(F.pl P).n]
    exact ⟨by omega, fun _ => k h' F, fun z => absurd (Int.le_refl _) z⟩
  · have hb := P.pf h5 h6
    refine s2_sumMisfit_8 ?_
    rw [(F.pl P).n]
    refine ⟨by omega, fun z => by omega, fun _ => k2_gather (F.bk B) D h5 h6 (fun h3 G D3 F3 => ?_)⟩
    have F4 := F.tr F3
    have ih3 := ih h3 D3 F4
    rw [sm_s _ h5] at ih3
    have key := upI (P := fun l => A2_sumMisfit_27 K b (sm (miF p s) f + sm (miL p s f) l) f l h3) (n := lv p f) ?_ (fun l h7 h8 jh => ?_) 0 (by omega) (by omega)
    · rw [sm_0, Int.add_zero] at key; exact key
    · refine s2_sumMisfit_27 ⟨by omega, ?_⟩
      rw [(F4.pl P).lv h5 h6]
      exact ⟨by omega, fun _ => ih3, fun z => absurd (Int.le_refl _) z⟩
    · rw [sm_s _ h7, ← Int.add_assoc] at jh
      refine s2_sumMisfit_27 ⟨by omega, ?_⟩
      rw [(F4.pl P).lv h5 h6]
      refine ⟨by omega, fun z => by omega, fun _ => k2_isFilled (F4.pl P) (F4.bk B) h5 h6 G h7 h8 (fun z1 z2 => ⟨by decide, fun w => absurd w (by decide), fun _ => k_slot (by omega) (by omega) (k2_differsBy (F4.bk B) h5 h6 G h7 h8 z1 ?_)⟩) (fun z => ⟨by decide, fun _ => ?_, fun w => absurd rfl w⟩)⟩
      · rw [show miL p s f l = dif p s f l from if_pos z1] at jh; exact jh
      · rw [miL_0 B.wp B.wf z, Int.add_zero] at jh; exact jh
/-- the state of a search in the class, beside the reference's -/
def SeI (a : Int × Int) (x1 x2 : Int) : Prop := x1 = a.1 ∧ ((a.1 = -2 ∧ a.2 = -1) ∨ (0 ≤ a.1 ∧ a.1 ≤ 31 ∧ x2 = a.2 ∧ 0 ≤ a.2 ∧ a.2 ≤ 3959960400000))
theorem k2_worst (P : Pl h 0 p nm) (B : Bk h b p s) {K : Int → mH → Prop} (k : ∀ h2, FrF b h h2 → K (wor p s) h2) : OkI M2_worstSlot [mR 12 b] h K := by
  have h4 := P.n4
  refine s2_worstSlot (k2_price P B (fun h1 D1 F1 => ?_))
  refine upI (P := fun f => ∀ h' x1 x2, Pd h' b p s → FrF b h h' → SeI (fl (worF p s) (-2, -1) f) x1 x2 → A2_worstSlot_12 K b x1 x2 f h') (n := nf p) (fun h' x1 x2 D F I => ?_) (fun f h5 h6 ih h' x1 x2 D F I => ?_) 0 (by omega) (by omega) h1 _ _ D1 F1 ⟨rfl, Or.inl ⟨rfl, rfl⟩⟩
  · refine s2_worstSlot_12 ?_
    rw [(F.pl P).n, I.1]
    exact ⟨by omega, fun _ => k h' F, fun z => absurd (Int.le_refl _) z⟩
  · have hb := P.pf h5 h6
    refine s2_worstSlot_12 ?_
    rw [(F.pl P).n]
    refine ⟨by omega, fun z => by omega, fun _ => k2_gather (F.bk B) D h5 h6 (fun h3 G D3 F3 => ?_)⟩
    have F4 := F.tr F3
    have ih3 := fun y1 y2 => ih h3 y1 y2 D3 F4
    rw [fl_s _ _ h5] at ih3
    revert ih3 I
    generalize fl (worF p s) (-2, -1) f = a0
    intro I ih3
    refine upI (P := fun l => ∀ x1 x2, SeI (fl (worG p s f) a0 l) x1 x2 → A2_worstSlot_33 K b x1 x2 f l h3) (n := lv p f) (fun x1 x2 J => ?_) (fun l h7 h8 jh x1 x2 J => ?_) 0 (by omega) (by omega) x1 x2 I
    · refine s2_worstSlot_33 ⟨by omega, ?_⟩
      rw [(F4.pl P).lv h5 h6]
      exact ⟨by omega, fun _ => ih3 _ _ J, fun z => absurd (Int.le_refl _) z⟩
    · rw [fl_s _ _ h7] at jh
      revert jh J
      generalize fl (worG p s f) a0 l = a
      intro jh J
      have hd := dif_bd B.wp B.wf f l
      have J1 := J.1
      refine s2_worstSlot_33 ⟨by omega, ?_⟩
      rw [(F4.pl P).lv h5 h6]
      refine ⟨by omega, fun z => by omega, fun _ => k_slot (by omega) (by omega) (k2_isOff (F4.pl P) (F4.bk B) h5 h6 G h7 h8 (fun z1 z2 => ⟨by decide, fun w => absurd w (by decide), fun _ => ?_⟩) (fun z => ⟨by decide, fun _ => jh _ _ ?_, fun w => absurd rfl w⟩))⟩
      · have yes : a.2 < dif p s f l → SeI (worG p s f l a) (8 * f + l) (dif p s f l) := by
          intro w
          rw [show worG p s f l a = (8 * f + l, dif p s f l) from if_pos ⟨z1, z2, w⟩]
          exact ⟨rfl, Or.inr ⟨by show 0 ≤ 8 * f + l; omega, by show 8 * f + l ≤ 31; omega, rfl, hd.1, hd.2⟩⟩
        refine ⟨by rcases J.2 with w | w <;> omega, fun z3 => k2_differsBy (F4.bk B) h5 h6 G h7 h8 z1 (jh _ _ (yes ?_)), fun z3 => k2_differsBy (F4.bk B) h5 h6 G h7 h8 z1 ⟨?_, fun z4 => jh _ _ ?_, fun z4 => k2_differsBy (F4.bk B) h5 h6 G h7 h8 z1 (jh _ _ (yes ?_))⟩⟩
        · rcases J.2 with w | w <;> omega
        · rcases J.2 with w | w <;> omega
        · rw [show worG p s f l a = a from if_neg (fun w => by rcases J.2 with v | v <;> omega)]
          exact J
        · rcases J.2 with w | w <;> omega
      · rw [show worG p s f l a = a from if_neg (fun w => z ⟨w.1, w.2.1⟩)]
        exact J
theorem k2_far (P : Pl h 0 p nm) (B : Bk h b p s) {K : Int → mH → Prop} {f : Int} (h5 : 0 ≤ f) (h6 : f < nf p) (k : ∀ h2, FrF b h h2 → K (far p s f) h2) : OkI M2_farthestOff [mR 12 b, mI f] h K := by
  have h4 := P.n4
  have hb := P.pf h5 h6
  refine s2_farthestOff (k2_measure P B h5 h6 (fun h3 G D3 F4 => ?_))
  refine upI (P := fun l => ∀ x1 x2, SeI (fl (farG p s f) (-2, -1) l) x1 x2 → A2_farthestOff_13 K b f x1 x2 l h3) (n := lv p f) (fun x1 x2 J => ?_) (fun l h7 h8 jh x1 x2 J => ?_) 0 (by omega) (by omega) _ _ ⟨rfl, Or.inl ⟨rfl, rfl⟩⟩
  · refine s2_farthestOff_13 ⟨by omega, ?_⟩
    rw [(F4.pl P).lv h5 h6, J.1]
    exact ⟨by omega, fun _ => k h3 F4, fun z => absurd (Int.le_refl _) z⟩
  · rw [fl_s _ _ h7] at jh
    revert jh J
    generalize fl (farG p s f) (-2, -1) l = a
    intro jh J
    have hd := dif_bd B.wp B.wf f l
    have J1 := J.1
    refine s2_farthestOff_13 ⟨by omega, ?_⟩
    rw [(F4.pl P).lv h5 h6]
    refine ⟨by omega, fun z => by omega, fun _ => k_slot (by omega) (by omega) (k2_isFilled (F4.pl P) (F4.bk B) h5 h6 G h7 h8 (fun z1 z2 => ⟨by decide, fun w => absurd w (by decide), fun _ => ?_⟩) (fun z => ⟨by decide, fun _ => jh _ _ ?_, fun w => absurd rfl w⟩))⟩
    · have yes : a.2 < dif p s f l → SeI (farG p s f l a) l (dif p s f l) := by
        intro w
        rw [show farG p s f l a = (l, dif p s f l) from if_pos ⟨z1, z2, w⟩]
        exact ⟨rfl, Or.inr ⟨by show 0 ≤ l; omega, by show l ≤ 31; omega, rfl, hd.1, hd.2⟩⟩
      refine ⟨by rcases J.2 with w | w <;> omega, fun z3 => k2_differsBy (F4.bk B) h5 h6 G h7 h8 z1 (jh _ _ (yes ?_)), fun z3 => k2_differsBy (F4.bk B) h5 h6 G h7 h8 z1 ⟨?_, fun z4 => jh _ _ ?_, fun z4 => k2_differsBy (F4.bk B) h5 h6 G h7 h8 z1 (jh _ _ (yes ?_))⟩⟩
      · rcases J.2 with w | w <;> omega
      · rcases J.2 with w | w <;> omega
      · rw [show farG p s f l a = a from if_neg (fun w => by rcases J.2 with v | v <;> omega)]
        exact J
      · rcases J.2 with w | w <;> omega
    · rw [show farG p s f l a = a from if_neg (fun w => z ⟨w.1, w.2.1⟩)]
      exact J
theorem k2_countClasses (P : Pl h 0 p nm) (B : Bk h b p s) {K : Int → mH → Prop} {f : Int} (h5 : 0 ≤ f) (h6 : f < nf p) (k : K (clF p s f) h) : OkI M2_countClasses [mR 12 b, mI f] h K := by
  have h4 := P.n4
  have hb := P.pf h5 h6
  refine s2_countClasses (upI (P := fun l => A2_countClasses_4 K b f (sm (clL s f) l) l h) (n := lv p f) ?_ (fun l h7 h8 ih => ?_) 0 (by omega) (by omega))
  · refine s2_countClasses_4 ⟨by omega, ?_⟩
    rw [P.lv h5 h6]
    exact ⟨by omega, fun _ => k, fun z => absurd (Int.le_refl _) z⟩
  · rw [sm_s _ h7] at ih
    refine s2_countClasses_4 ⟨by omega, ?_⟩
    rw [P.lv h5 h6]
    refine ⟨by omega, fun z => by omega, fun _ => k0_startsClass B.j h4.2 h5 h6 h7 (by omega) (fun z => ⟨by decide, fun w => absurd w (by decide), fun _ => ?_⟩) (fun z => ⟨by decide, fun _ => ?_, fun w => absurd rfl w⟩)⟩
    · rw [show clL s f l = 1 from if_pos z] at ih; exact ih
    · rw [show clL s f l = 0 from if_neg z, Int.add_zero] at ih; exact ih
theorem k2_countAt (P : Pl h 0 p nm) (B : Bk h b p s) {K : Int → mH → Prop} {f e : Int} (h5 : 0 ≤ f) (h6 : f < nf p) (he : mInR e) (k : K (sm (aeL s f e) (lv p f)) h) : OkI M2_countAt [mR 12 b, mI f, mI e] h K := by
  have h4 := P.n4
  have hb := P.pf h5 h6
  refine s2_countAt (upI (P := fun l => A2_countAt_5 K b f e (sm (aeL s f e) l) l h) (n := lv p f) ?_ (fun l h7 h8 ih => ?_) 0 (by omega) (by omega))
  · refine s2_countAt_5 ⟨by omega, ?_⟩
    rw [P.lv h5 h6]
    exact ⟨by omega, fun _ => k, fun z => absurd (Int.le_refl _) z⟩
  · rw [sm_s _ h7] at ih
    have hr := rel_bd B.wp B.wf h5 h6 h7 h8
    refine s2_countAt_5 ⟨by omega, ?_⟩
    rw [P.lv h5 h6]
    refine ⟨by omega, fun z => by omega, fun _ => k0_startsClass B.j h4.2 h5 h6 h7 (by omega) (fun z => ⟨by decide, fun w => absurd w (by decide), fun _ => k_slot (by omega) (by omega) ⟨by omega, ?_⟩⟩) (fun z => ⟨by decide, fun _ => ?_, fun w => absurd rfl w⟩)⟩
    · rw [B.l h5 h6 h7 h8]
      refine ⟨by omega, fun z2 => ?_, fun z2 => ?_⟩
      · rw [show aeL s f e l = 0 from if_neg (fun w => z2 w.2), Int.add_zero] at ih; exact ih
      · rw [show aeL s f e l = 1 from if_pos ⟨z, z2⟩] at ih; exact ih
    · rw [show aeL s f e l = 0 from if_neg (fun w => z w.1), Int.add_zero] at ih; exact ih
theorem k2_countAll (P : Pl h 0 p nm) (B : Bk h b p s) {K : Int → mH → Prop} {w : Int} (hw : w = 0 ∨ w = 1) (k : ∀ h2, FrF b h h2 → K (cc p s w) h2) : OkI M2_countAllClasses [mR 12 b, mI w] h K := by
  have h4 := P.n4
  refine s2_countAllClasses (k2_price P B (fun h1 D1 F1 => ?_))
  refine upI (P := fun f => ∀ h', Pd h' b p s → FrF b h h' → A2_countAllClasses_8 K b w (sm (ccF p s w) f) f h') (n := nf p) (fun h' D F => ?_) (fun f h5 h6 ih h' D F => ?_) 0 (by omega) (by omega) h1 D1 F1
  · refine s2_countAllClasses_8 ?_
    rw [(F.pl P).n]
    exact ⟨by omega, fun _ => k h' F, fun z => absurd (Int.le_refl _) z⟩
  · have hb := P.pf h5 h6
    refine s2_countAllClasses_8 ?_
    rw [(F.pl P).n]
    refine ⟨by omega, fun z => by omega, fun _ => k2_gather (F.bk B) D h5 h6 (fun h3 G D3 F3 => ?_)⟩
    have F4 := F.tr F3
    have ih3 := ih h3 D3 F4
    rw [sm_s _ h5] at ih3
    have key := upI (P := fun l => A2_countAllClasses_27 K b w (sm (ccF p s w) f + sm (ccL s w f) l) f l h3) (n := lv p f) ?_ (fun l h7 h8 jh => ?_) 0 (by omega) (by omega)
    · rw [sm_0, Int.add_zero] at key; exact key
    · refine s2_countAllClasses_27 ⟨by omega, ?_⟩
      rw [(F4.pl P).lv h5 h6]
      exact ⟨by omega, fun _ => ih3, fun z => absurd (Int.le_refl _) z⟩
    · rw [sm_s _ h7, ← Int.add_assoc] at jh
      refine s2_countAllClasses_27 ⟨by omega, ?_⟩
      rw [(F4.pl P).lv h5 h6]
      refine ⟨by omega, fun z => by omega, fun _ => k0_startsClass (F4.bk B).j h4.2 h5 h6 h7 (by omega) (fun z => ⟨by decide, fun w => absurd w (by decide), fun _ => ⟨by omega, fun z2 => ?_, fun z2 => k2_isFilled (F4.pl P) (F4.bk B) h5 h6 G h7 h8 (fun _ z3 => ⟨by decide, fun _ => ?_, fun w => absurd w (by decide)⟩) (fun z3 => ⟨by decide, fun w => absurd rfl w, fun _ => ?_⟩)⟩⟩) (fun z => ⟨by decide, fun _ => ?_, fun w => absurd rfl w⟩)⟩
      · rw [show ccL s w f l = 1 from if_pos ⟨z, Or.inl z2⟩] at jh; exact jh
      · rw [show ccL s w f l = 0 from if_neg (fun v => v.2.elim z2 z3), Int.add_zero] at jh; exact jh
      · have z4 : csR s f l = 0 := by
          by_cases c : csR s f l = 0
          · exact c
          · exact absurd ⟨z, c⟩ z3
        rw [show ccL s w f l = 1 from if_pos ⟨z, Or.inr z4⟩] at jh; exact jh
      · rw [show ccL s w f l = 0 from if_neg (fun v => z v.1), Int.add_zero] at jh; exact jh
end CLS6
