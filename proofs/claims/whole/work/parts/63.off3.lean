/-! the class: its questions -/
section OFF3
variable {h h2 : mH} {σ : Sg}
theorem cs_fs (s : Int → Int) (f l : Int) (w : Int → Int) : cs s f (fs s f l) w = cs s f l w := by
  unfold cs
  refine sm_congr (fun r _ _ => ?_)
  unfold co
  rw [fs_fs]
theorem bal_fs {p : Pn} {s : Int → Int} (hp : WfP p) (hs : WfS p s) {f l : Int} (h0 : 0 ≤ f) (h1 : f < nf p) (h2 : 0 ≤ l) (h3 : l < lv p f) : bal p s f (fs s f l) = bal p s f l := by
  unfold bal csR csC csP
  rw [cs_fs, cs_fs, cs_fs, rel_fsI hp hs h0 h1 h2 h3]
theorem m_unbalanced (C : CG h σ) {K : Int → mH → Prop} (k : ∀ h2, CG h2 σ → FrM h h2 → K (q_unb σ) h2) : OkI M6_unbalanced [mR 25 0] h K := s6_unbalanced (k2_countUnbalanced C.1 C.2.1 (fun h2 F => k h2 (C.q F.q) F.q.mm))
theorem m_worst (C : CG h σ) {K : Int → mH → Prop} (k : ∀ h2, CG h2 σ → FrM h h2 → K (q_worst σ) h2) : OkI M6_worst [mR 25 0] h K := s6_worst (k2_worst C.1 C.2.1 (fun h2 F => k h2 (C.q F.q) F.q.mm))
theorem m_leastCap (C : CG h σ) {K : Int → mH → Prop} (k : ∀ h2, CG h2 σ → FrM h h2 → K (q_leastCap σ) h2) : OkI M6_leastCap [mR 25 0] h K := s6_leastCap (k1_searchCap C.1 C.2.1 (fun h2 F => k h2 (C.q F) F.mm))
theorem m_offBalance (C : CG h σ) {K : Int → mH → Prop} (k : ∀ h2, CG h2 σ → FrM h h2 → K (q_off σ) h2) : OkI M6_offBalance [mR 25 0] h K := by
  refine s6_offBalance (k1_settle C.1 C.2.1 (fun h2 D Cc F => ?_))
  rw [Cc.1.1]
  exact k h2 (C.q F) F.mm
theorem m_named (C : CG h σ) {K : Int → mH → Prop} {x1 : Int} (hx : mInR x1) (k : ∀ h2, CG h2 σ → FrM h h2 → K (q_named σ x1) h2) : OkI M6_named [mR 25 0, mI x1] h K := s6_named (k3_find C.1 hx (k h C (FrM.rf h)))
theorem m_fault (C : CG h σ) {K : Int → mH → Prop} {x1 : Int} (hx : mInR x1) (k : ∀ h2, CG h2 σ → FrM h h2 → K (q_fault σ x1) h2) : OkI M6_fault [mR 25 0, mI x1] h K := by
  have kk := k h C (FrM.rf h)
  unfold q_fault at kk
  obtain ⟨f1, f2, -, -⟩ := C.2.2.2.2.2
  refine s6_fault ?_
  rw [f1, f2]
  refine ⟨hx, fun z => ⟨hx, fun z2 => ?_, fun z2 => ?_⟩, fun z => ?_⟩
  · rw [if_neg z, if_neg z2] at kk; exact kk
  · rw [if_neg z, if_pos z2] at kk; exact kk
  · rw [if_pos z] at kk; exact kk
theorem m_count (C : CG h σ) {K : Int → mH → Prop} {x1 : Int} (hx : mInR x1) (k : ∀ h2, CG h2 σ → FrM h h2 → K (q_count σ x1) h2) : OkI M6_count [mR 25 0, mI x1] h K := by
  have kk := k h C (FrM.rf h)
  have k2 := fun h2 (F : FrF 0 h h2) => k h2 (C.q F.q) F.q.mm
  unfold q_count at kk k2
  have P := C.1
  have B := C.2.1
  refine s6_count ?_
  rw [P.n, P.1.2.1, B.m, B.1.2.1, B.1.2.2.1, B.1.2.2.2.1, B.1.2.2.2.2.1, B.1.2.2.2.2.2, C.2.2.2.1.2.1, C.2.2.2.2.1.1]
  refine ⟨hx, fun w => ?_, fun w => ?_, fun w => ?_, fun w => ?_, fun w => ?_, fun w => k2_countAll P B (Or.inl rfl) (fun h2 F => ?_), fun w => k2_countAll P B (Or.inr rfl) (fun h2 F => ?_), fun w => ?_, fun w => ?_, fun w => ?_, fun w => ?_, fun w => ?_, fun w => ?_⟩
  · rw [if_pos w] at kk; exact kk
  · rw [if_neg (by omega), if_pos w] at kk; exact kk
  · rw [if_neg (by omega), if_neg (by omega), if_pos w] at kk; exact kk
  · rw [if_neg (by omega), if_neg (by omega), if_neg (by omega), if_pos w] at kk; exact kk
  · rw [if_neg (by omega), if_neg (by omega), if_neg (by omega), if_neg (by omega), if_pos w] at kk; exact kk
  · have k3 := k2 h2 F
    rw [if_neg (by omega), if_neg (by omega), if_neg (by omega), if_neg (by omega), if_neg (by omega), if_pos w] at k3; exact k3
  · have k3 := k2 h2 F
    rw [if_neg (by omega), if_neg (by omega), if_neg (by omega), if_neg (by omega), if_neg (by omega), if_neg (by omega), if_pos w] at k3; exact k3
  · rw [if_neg (by omega), if_neg (by omega), if_neg (by omega), if_neg (by omega), if_neg (by omega), if_neg (by omega), if_neg (by omega), if_pos w] at kk; exact kk
  · rw [if_neg (by omega), if_neg (by omega), if_neg (by omega), if_neg (by omega), if_neg (by omega), if_neg (by omega), if_neg (by omega), if_neg (by omega), if_pos w] at kk; exact kk
  · rw [if_neg (by omega), if_neg (by omega), if_neg (by omega), if_neg (by omega), if_neg (by omega), if_neg (by omega), if_neg (by omega), if_neg (by omega), if_neg (by omega), if_pos w] at kk; exact kk
  · rw [if_neg (by omega), if_neg (by omega), if_neg (by omega), if_neg (by omega), if_neg (by omega), if_neg (by omega), if_neg (by omega), if_neg (by omega), if_neg (by omega), if_neg (by omega), if_pos w] at kk; exact kk
  · rw [if_neg (by omega), if_neg (by omega), if_neg (by omega), if_neg (by omega), if_neg (by omega), if_neg (by omega), if_neg (by omega), if_neg (by omega), if_neg (by omega), if_neg (by omega), if_neg (by omega), if_pos w] at kk; exact kk
  · rw [if_neg (by omega), if_neg (by omega), if_neg (by omega), if_neg (by omega), if_neg (by omega), if_neg (by omega), if_neg (by omega), if_neg (by omega), if_neg (by omega), if_neg (by omega), if_neg (by omega), if_neg (by omega)] at kk; exact kk
theorem m_margin (C : CG h σ) {K : Int → mH → Prop} {x1 x2 x3 : Int} (hx : mInR x1) (hx2 : mInR x2) (hx3 : mInR x3) (k : ∀ h2, CG h2 σ → FrM h h2 → K (q_margin σ x1 x2 x3) h2) : OkJ M6_margin [mR 25 0, mI x1, mI x2, mI x3] h K := by
  have P := C.1
  have B := C.2.1
  have h4 := P.n4
  refine s6_margin (k3_hasLevel P hx hx2 (fun a b c d => ⟨by decide, fun _ => k2_measure P B a b (fun h2 G D F => ?_), fun w => absurd w (by decide)⟩) (fun z => ⟨by decide, fun w => absurd rfl w, fun _ => ?_⟩))
  · have kk := k h2 (C.q F.q) F.q.mm
    unfold q_margin at kk
    rw [if_pos ⟨⟨a, b⟩, c, d⟩] at kk
    have P2 := F.pl P
    have B2 := F.bk B
    have hp := B.wp
    have hs := B.wf
    have hb := P.pf a b
    have hf := fs_le (s := gS σ) (f := x1) c
    have hff := fs_fs (gS σ) x1 x2
    have hg := G _ hf.1 (by omega) hff
    have hr := rel_bd hp hs a b c d
    have hR := csR_bd hs x1 x2
    have hl := la_bd hp hs.j a b c d
    have e1 : csC (gS σ) x1 (fs (gS σ) x1 x2) = csC (gS σ) x1 x2 := cs_fs _ _ _ _
    have e2 : csP (gP σ) (gS σ) x1 (fs (gS σ) x1 x2) = csP (gP σ) (gS σ) x1 x2 := cs_fs _ _ _ _
    have e3 : csE (gS σ) x1 (fs (gS σ) x1 x2) = csE (gS σ) x1 x2 := cs_fs _ _ _ _
    have e4 : csR (gS σ) x1 (fs (gS σ) x1 x2) = csR (gS σ) x1 x2 := cs_fs _ _ _ _
    refine k0_firstOf B2.j h4.2 a b c (by omega) (k_slot (by omega) (by omega) ?_)
    rw [B2.l a b hf.1 (by omega), rel_fsI hp hs a b c d, hg.1, hg.2.1, hg.2.2.1, hg.2.2.2, e1, e2, e3, e4]
    refine ⟨hx3, fun z => ⟨by omega, by omega, ?_⟩, fun z => ⟨by omega, ?_⟩, fun z => k0_lastOf B2.j hp hs.j a b c d ⟨by omega, ?_⟩, fun z => ⟨by omega, ?_⟩, fun z => ⟨by omega, ?_⟩, fun z => ⟨by omega, ?_⟩, fun z => ⟨by omega, by omega, ?_⟩, fun z => k2_balances P2 B2 a b G hf.1 (by omega) hff (fun hb => ⟨by decide, fun w => absurd w (by decide), fun _ => ?_⟩) (fun hb => ⟨by decide, fun _ => ?_, fun w => absurd rfl w⟩), fun z => ?_⟩
    · rw [if_pos z] at kk; exact kk
    · rw [if_neg (by omega), if_pos z] at kk; exact kk
    · rw [if_neg (by omega), if_neg (by omega), if_pos z] at kk; exact kk
    · rw [if_neg (by omega), if_neg (by omega), if_neg (by omega), if_pos z] at kk; exact kk
    · rw [if_neg (by omega), if_neg (by omega), if_neg (by omega), if_neg (by omega), if_pos z] at kk; exact kk
    · rw [if_neg (by omega), if_neg (by omega), if_neg (by omega), if_neg (by omega), if_neg (by omega), if_pos z] at kk; exact kk
    · rw [if_neg (by omega), if_neg (by omega), if_neg (by omega), if_neg (by omega), if_neg (by omega), if_neg (by omega), if_pos z] at kk; exact kk
    · rw [bal_fs hp hs a b c d] at hb
      rw [if_neg (by omega), if_neg (by omega), if_neg (by omega), if_neg (by omega), if_neg (by omega), if_neg (by omega), if_neg (by omega), if_pos z, if_pos hb] at kk; exact kk
    · rw [bal_fs hp hs a b c d] at hb
      rw [if_neg (by omega), if_neg (by omega), if_neg (by omega), if_neg (by omega), if_neg (by omega), if_neg (by omega), if_neg (by omega), if_pos z, hb] at kk; exact kk
    · rw [if_neg (by omega), if_neg (by omega), if_neg (by omega), if_neg (by omega), if_neg (by omega), if_neg (by omega), if_neg (by omega), if_neg (by omega)] at kk; exact kk
  · have kk := k h C (FrM.rf h)
    unfold q_margin at kk
    rw [if_neg z] at kk; exact kk
end OFF3
