/-! the reference reads a line: band, join, risk -/
section RLINE3
variable {h h2 h3 : mH} {t : Int → Int} {n i : Int} {r : Rd}
theorem c7_facHere (R : RDt h t n (dI r)) (D : RDd h r) (W : WfD n r) {K : Int → mH → Prop}
    (k1 : ∀ h2 f, (∀ ok, faK t n r ok = ok f) → 0 ≤ f → f < nf (dP r) → RDt h2 t n (tE t n (dI r)) → Fr30 h h2 → K f h2)
    (k0 : ∀ h2 k p, (∀ ok, faK t n r ok = badE k p) → Bd n h2 k p → Fr30 h h2 → K 0 h2) : OkI M7_factorHere [mR 30 0] h K := by
  have hn := W.2.1.1.1
  refine s7_factorHere (c7_goOn R (fun h1 R1 F1 => ?_))
  have e18 := R1.2.2.2.2.2.2.2
  have e16 := R1.2.2.2.2.2.1
  have hsb := tS_bd (t := t) (n := n) (i := tE t n (dI r))
  have D1 := D.f30 F1
  refine ⟨by rw [e18]; decide, fun _ => ?_, fun w => absurd e18 w⟩
  rw [e16]
  refine ⟨by omega, fun w => ?_, fun w => c7_bad R1 (by decide) (fun h2 B F2 => ?_)⟩
  · have e17 := R1.2.2.2.2.2.2.1 (Or.inr (Or.inl w))
    have hv := tV_bd (t := t) (n := n) (i := tE t n (dI r)) (Or.inr (Or.inl w))
    refine s7_factorHere_26 ⟨by rw [e18]; decide, fun z => absurd e18 z, fun _ => c7_reading (by decide) ?_⟩
    rw [show (9 : Int) + 7 = 16 by decide, show h1 32 0 16 = nf (dP r) from D1.1.2.2.2.2.2.2.2.1, e17]
    have hfb := fnd_bd W (tV t n (tE t n (dI r)))
    refine c7_namedR D1 W (by omega) (s7_factorHere_52 ⟨by omega, fun y => ⟨by omega, fun _ => ?_, fun y2 => absurd y2 y⟩, fun y => c7_bad R1 (by decide) (fun h2 B F2 => ⟨by omega, fun y2 => absurd y y2, fun _ => ?_⟩)⟩)
    · exact k1 h1 _ (fun ok => by unfold faK; rw [if_pos w, if_neg y]) (by omega) (by omega) R1 F1
    · exact k0 h2 4 _ (fun ok => by unfold faK; rw [if_pos w, if_pos y]) B (F1.tr F2)
  · refine s7_factorHere_26 ⟨B.ne.2, fun _ => ?_, fun z => absurd z B.ne.1⟩
    refine s7_factorHere_52 ⟨by decide, fun _ => ⟨by decide, fun _ => ?_, fun z => absurd z (by decide)⟩, fun z => absurd z (by decide)⟩
    exact k0 h2 1 _ (fun ok => by unfold faK; rw [if_neg w]) B (F1.tr F2)
theorem c7_band28F {k p x : Int} (B : Bd n h k p) {K : mH → Prop} (kk : K h) : A7_readBand_28 K x h := s7_readBand_28 (f7_goOn B (f7_num B (f7_num B ⟨B.ne.2, fun z => absurd z B.ne.1, fun _ => kk⟩)))
theorem c7_readBand (R : RDt h t n (dI r)) (D : RDd h r) (W : WfD n r) (L : h 30 0 12 = dL r) {K : mH → Prop} (k : ∀ h2, PR t n (dI r) h (bdBand t n r) h2 → K h2) : OkV M7_readBand [mR 30 0] h K := by
  have hn := W.2.1.1.1
  refine s7_readBand (c7_facHere R D W (fun h1 f e f0 f1 R1 F1 => ?_) (fun h1 k1 p e B F1 => ⟨B.ne.2, fun _ => c7_band28F B (k h1 ?_), fun z => absurd z B.ne.1⟩))
  · have e18 := R1.2.2.2.2.2.2.2
    have D1 := D.f30 F1
    have hB := W.2.2.2.2.2.2.1 f
    have e38 := (D1.2.2.1 f f0 f1).2.2.2.2.1
    refine ⟨by rw [e18]; decide, fun z => absurd e18 z, fun _ => ⟨by omega, ?_⟩⟩
    rw [e38]
    refine ⟨by omega, fun z => ?_, fun z => c7_bad R1 (by decide) (fun h2 B F2 => c7_band28F B (k h2 ?_))⟩
    · refine s7_readBand_28 (c7_goOn R1 (fun h2 R2 F2 => c7_num R2 (by decide) (by decide) (fun h3 e3 a3 b3 R3 F3 => ?_) (fun h3 k3 e3 B3 F3 => ?_)))
      · refine c7_num R3 (by decide) (by decide) (fun h4 e4 a4 b4 R4 F4 => ?_) (fun h4 k4 e4 B4 F4 => ?_)
        · have e18b := R4.2.2.2.2.2.2.2
          refine ⟨by rw [e18b]; decide, fun _ => ⟨by omega, ?_⟩, fun z => absurd e18b z⟩
          rintro _ rfl
          refine ⟨by omega, ?_⟩
          rintro _ rfl
          refine ⟨by omega, ?_⟩
          rintro _ rfl
          have FF := ((F1.tr F2).tr F3).tr F4
          have D4 := D.f30 FF
          refine k _ ?_
          have eb : bdBand t n r = Sum.inr (tE t n (tE t n (tE t n (tE t n (dI r)))), bandP (dP r) f (tV t n (tE t n (tE t n (dI r)))) (tV t n (tE t n (tE t n (tE t n (dI r))))), dN r, dS r, dW r, up (dB r) f 1, dL r) := by
            unfold bdBand
            rw [e, if_pos z, e3, e4]
          rw [eb]
          refine ⟨((FF.fr.tr (FrR.set ⟨rfl, by omega⟩)).tr (FrR.set ⟨rfl, by omega⟩)).tr (FrR.set ⟨rfl, by omega⟩), ?_, ((R4.set (by decide)).set (by decide)).set (by decide), ?_, wf_band W R3.eb ⟨f0, f1⟩ ⟨a3, b3⟩ ⟨a4, b4⟩, ?_⟩
          · have := R.up
            have := R1.up
            have := R2.up
            have := R3.up
            show dI r ≤ tE t n (tE t n (tE t n (tE t n (dI r))))
            omega
          · obtain ⟨d1, d2, d3, d4⟩ := D4
            refine ⟨?_, fun x c d => ?_, fun g c d => ?_, fun j c d => ?_⟩
            · unfold RDn
              rw [mSet_o (show (32 : Nat) ≠ 37 by decide), mSet_o (show (32 : Nat) ≠ 36 by decide), mSet_o (show (32 : Nat) ≠ 38 by decide)]
              exact d1
            · rw [mSet_o (by decide), mSet_o (by decide), mSet_o (by decide)]; exact d2 x c d
            · have q := d3 g c d
              refine ⟨?_, ?_, ?_, ?_, ?_, ?_⟩
              · rw [mSet_o (by decide), mSet_o (by decide), mSet_o (by decide)]; exact q.1
              · rw [mSet_o (by decide), mSet_o (by decide), mSet_o (by decide)]; exact q.2.1
              · show _ = up (lo (dP r)) f _ g
                rw [mSet_o (by decide)]
                by_cases u : g = f
                · rw [u, up_same, mSet_e]
                · rw [up_ne u, mSet_kk (by omega), mSet_o (by decide)]; exact q.2.2.1
              · show _ = up (hi (dP r)) f _ g
                by_cases u : g = f
                · rw [u, up_same, mSet_e]
                · rw [up_ne u, mSet_kk (by omega), mSet_o (by decide), mSet_o (by decide)]; exact q.2.2.2.1
              · show _ = up (dB r) f 1 g
                rw [mSet_o (by decide), mSet_o (by decide)]
                by_cases u : g = f
                · rw [u, up_same, mSet_e]
                · rw [up_ne u, mSet_kk (by omega)]; exact q.2.2.2.2.1
              · rw [mSet_o (by decide), mSet_o (by decide), mSet_o (by decide)]; exact q.2.2.2.2.2
            · rw [mSet_o (by decide), mSet_o (by decide), mSet_o (by decide)]; exact d4 j c d
          · rw [mSet_o (by decide), mSet_o (by decide), mSet_o (by decide), FF.2 12 (by omega)]; exact L
        · refine ⟨B4.ne.2, fun z => absurd z B4.ne.1, fun _ => k h4 ?_⟩
          have eb : bdBand t n r = badE k4 (tP t n (tE t n (tE t n (tE t n (dI r))))) := by
            unfold bdBand
            rw [e, if_pos z, e3, e4]
          rw [eb]
          exact ⟨(((F1.tr F2).tr F3).tr F4).fr, B4⟩
      · refine f7_num B3 ⟨B3.ne.2, fun z => absurd z B3.ne.1, fun _ => k h3 ?_⟩
        have eb : bdBand t n r = badE k3 (tP t n (tE t n (tE t n (dI r)))) := by
          unfold bdBand
          rw [e, if_pos z, e3]
        rw [eb]
        exact ⟨((F1.tr F2).tr F3).fr, B3⟩
    · have eb : bdBand t n r = badE 3 (tP t n (tE t n (dI r))) := by
        unfold bdBand
        rw [e, if_neg z]
      rw [eb]
      exact ⟨(F1.tr F2).fr, B⟩
  · have eb : bdBand t n r = badE k1 p := by unfold bdBand; rw [e]
    rw [eb]
    exact ⟨F1.fr, B⟩
theorem c7_join80F {k p x : Int} (B : Bd n h k p) {K : mH → Prop} (kk : K h) : A7_readJoin_80 K x h := s7_readJoin_80 ⟨B.ne.2, fun z => absurd z B.ne.1, fun _ => kk⟩
theorem c7_readJoin (R : RDt h t n (dI r)) (D : RDd h r) (W : WfD n r) (L : h 30 0 12 = dL r) {K : mH → Prop} (k : ∀ h2, PR t n (dI r) h (bdJoin t n r) h2 → K h2) : OkV M7_readJoin [mR 30 0] h K := by
  have hn := W.2.1.1.1
  refine s7_readJoin (c7_facHere R D W (fun h1 f e f0 f1 R1 F1 => c7_goOn R1 (fun h2 R2 F2 => ?_)) (fun h1 k1 p e B F1 => f7_goOn B ⟨B.ne.2, fun z => absurd z B.ne.1, fun _ => k h1 ?_⟩))
  · have FF := F1.tr F2
    have D2 := D.f30 FF
    have e18 := R2.2.2.2.2.2.2.2
    have e16 := R2.2.2.2.2.2.1
    have hsb := tS_bd (t := t) (n := n) (i := tE t n (tE t n (dI r)))
    have hlv := W.2.1.2 f f0 f1
    have q := D2.2.2.1 f f0 f1
    refine ⟨by rw [e18]; decide, fun _ => ?_, fun z => absurd e18 z⟩
    rw [e16]
    refine ⟨by omega, fun z => ⟨by omega, ?_⟩, fun z => c7_bad R2 (by decide) (fun h3 B F3 => c7_join80F B (k h3 ?_))⟩
    · have e17 := R2.2.2.2.2.2.2.1 (Or.inr (Or.inr z))
      have hv := tV_bd (t := t) (n := n) (i := tE t n (tE t n (dI r))) (Or.inr (Or.inr z))
      rw [e17, q.2.1, q.2.2.2.2.2]
      refine ⟨by omega, fun z2 => ⟨by omega, mAnd_R _ _, fun z3 => ?_, fun z3 => c7_bad R2 (by decide) (fun h3 B F3 => c7_join80F B (k h3 ?_))⟩, fun z2 => c7_bad R2 (by decide) (fun h3 B F3 => c7_join80F B (k h3 ?_))⟩
      · have hj : ¬ jb (dS r (304 + f)) (tV t n (tE t n (tE t n (dI r)))) = true := fun w => z3 (of_decide_eq_true w)
        refine s7_readJoin_80 ⟨by rw [e18]; decide, fun _ => ⟨by omega, by omega, ?_⟩, fun z => absurd e18 z⟩
        rw [e17, q.2.2.2.2.2]
        rintro _ rfl
        refine c7_tokN (R2.set (by decide)) (fun h3 R3 F3 => k h3 ?_)
        have eb : bdJoin t n r = Sum.inr (tE t n (tE t n (tE t n (dI r))), dP r, dN r, up (dS r) (304 + f) (mOr (dS r (304 + f)) (mShl 1 (tV t n (tE t n (tE t n (dI r)))))), dW r, dB r, dL r) := by
          unfold bdJoin
          rw [e, if_pos z, if_pos z2, if_neg hj]
        rw [eb]
        refine ⟨(FF.fr.tr (FrR.set ⟨rfl, by omega⟩)).tr F3.fr, ?_, R3, ?_, wf_join W R2.eb ⟨f0, f1⟩ ⟨by omega, z2⟩, ?_⟩
        · have := R.up
          have := R1.up
          have := R2.up
          show dI r ≤ tE t n (tE t n (tE t n (dI r)))
          omega
        · refine RDd.f30 ?_ F3
          obtain ⟨d1, d2, d3, d4⟩ := D2
          have hm := W.2.2.1.1.1
          refine ⟨?_, fun x c d => ?_, fun g c d => ?_, fun j c d => ?_⟩
          · show RDn _ (dP r) (up (dS r) (304 + f) _)
            unfold RDn at d1 ⊢
            rw [mSet_o (by decide), up_ne (by omega), up_ne (by omega), up_ne (by omega), up_ne (by omega), up_ne (by omega), up_ne (by omega)]
            exact d1
          · rw [mSet_o (by decide)]; exact d2 x c d
          · have qg := d3 g c d
            rw [mSet_o (by decide), mSet_o (by decide), mSet_o (by decide), mSet_o (by decide), mSet_o (by decide)]
            refine ⟨qg.1, qg.2.1, qg.2.2.1, qg.2.2.2.1, qg.2.2.2.2.1, ?_⟩
            show _ = up (dS r) (304 + f) _ (304 + g)
            by_cases u : g = f
            · rw [u, up_same, mSet_e]
            · rw [up_ne (by omega), mSet_kk (by omega)]; exact qg.2.2.2.2.2
          · have d5 : j < 7 * up (dS r) (304 + f) (mOr (dS r (304 + f)) (mShl 1 (tV t n (tE t n (tE t n (dI r)))))) 310 := d
            rw [up_ne (by omega)] at d5
            rw [mSet_o (by decide)]
            show _ = up (dS r) (304 + f) _ j
            rw [up_ne (by omega)]
            exact d4 j c d5
        · rw [F3.2 12 (by omega), mSet_o (by decide), FF.2 12 (by omega)]; exact L
      · have hj : jb (dS r (304 + f)) (tV t n (tE t n (tE t n (dI r)))) = true := decide_eq_true z3
        have eb : bdJoin t n r = badE 3 (tP t n (tE t n (tE t n (dI r)))) := by
          unfold bdJoin
          rw [e, if_pos z, if_pos z2, if_pos hj]
        rw [eb]
        exact ⟨(FF.tr F3).fr, B⟩
      · have eb : bdJoin t n r = badE 2 (tP t n (tE t n (tE t n (dI r)))) := by
          unfold bdJoin
          rw [e, if_pos z, if_neg z2]
        rw [eb]
        exact ⟨(FF.tr F3).fr, B⟩
    · have eb : bdJoin t n r = badE 1 (tP t n (tE t n (tE t n (dI r)))) := by
        unfold bdJoin
        rw [e, if_neg z]
      rw [eb]
      exact ⟨(FF.tr F3).fr, B⟩
  · have eb : bdJoin t n r = badE k1 p := by unfold bdJoin; rw [e]
    rw [eb]
    exact ⟨F1.fr, B⟩
/-! a risk -/
theorem c7_risk94F {K : mH → Prop} {k p m nfv a b c : Int} (hm : 0 ≤ m ∧ m < 40) (hn : mInR nfv) (kk : ∀ h2, Bd n h2 k p → FrR h h2 → K h2) : ∀ f, 0 ≤ f → f ≤ 4 → ∀ h2, Bd n h2 k p → FrR h h2 → h2 32 0 16 = nfv → A7_readRisk_94 K (7 * m) a b c f h2 := by
  refine upI (P := fun f => ∀ h2, Bd n h2 k p → FrR h h2 → h2 32 0 16 = nfv → A7_readRisk_94 K (7 * m) a b c f h2) (n := 4) (fun h2 B F e => ?_) (fun f h5 h6 ih h2 B F e => ?_)
  · refine s7_readRisk_94 ⟨by decide, fun _ => c7_reading (by decide) (s7_reads ⟨by decide, ?_⟩), fun z => absurd (Int.le_refl _) z⟩
    rintro _ rfl
    exact kk _ (B.set (by decide)) (F.tr (FrR.set ⟨rfl, by omega⟩))
  · refine s7_readRisk_94 ⟨by omega, fun z => by omega, fun _ => c7_reading (by decide) ?_⟩
    rw [show (9 : Int) + 7 = 16 by decide, e]
    refine ⟨by omega, fun _ => ⟨by omega, ?_⟩, fun _ => ⟨by omega, f7_num B ⟨by omega, ?_⟩⟩⟩
    · rintro _ rfl
      exact ih _ (B.set (by decide)) (F.tr (FrR.set ⟨rfl, by omega⟩)) (by rw [mSet_o (by decide)]; exact e)
    · rintro _ rfl
      exact ih _ (B.set (by decide)) (F.tr (FrR.set ⟨rfl, by omega⟩)) (by rw [mSet_o (by decide)]; exact e)
theorem c7_risk94 (D : RDd h r) (W : WfD n r) (L : h 30 0 12 = dL r) {K : mH → Prop} {e c o : Int} (h40 : dS r 310 ≠ 40) (he : 1 ≤ e ∧ e ≤ 99) (hc : 0 ≤ c ∧ c ≤ 99999) (ho : 1 ≤ o ∧ o ≤ 99999) {Y : Er} (k : ∀ h2, PR t n (dI r) h Y h2 → K h2) :
    ∀ f, 0 ≤ f → f ≤ 4 → ∀ h2 i x, RDt h2 t n i → FrR h h2 → (∀ q : Nat, 32 ≤ q → q ≤ 39 → h2 q 0 = h q 0) → h2 30 0 12 = dL r → (∀ j, 0 ≤ j → j < 7 * dS r 310 → h2 40 0 j = dS r j) → h2 40 0 (7 * dS r 310 + 0) = e → h2 40 0 (7 * dS r 310 + 1) = c → h2 40 0 (7 * dS r 310 + 2) = o → (∀ g, 0 ≤ g → g < f → h2 40 0 (7 * dS r 310 + 3 + g) = dg x g) → (f ≤ nf (dP r) → LvX (dP r) x f ∧ lvK t n (dP r) (nf (dP r) - f).toNat f i x (fun i x => Sum.inr (i, dP r, dN r, adS (dS r) e c o x, dW r, dB r, dL r)) = Y) → (nf (dP r) ≤ f → LvX (dP r) x (nf (dP r)) ∧ Sum.inr (i, dP r, dN r, adS (dS r) e c o x, dW r, dB r, dL r) = Y) → dI r ≤ i → A7_readRisk_94 K (7 * dS r 310) e c o f h2 := by
  have hn := W.2.1.1.1
  have hm := W.2.2.1.1.1
  refine upI (n := 4) ?_ (fun f h5 h6 ih => ?_)
  · intro h2 i x R2 F2 eo e12 e40 q0 q1 q2 q3 _ hY hi
    have hY2 := hY (by omega)
    refine s7_readRisk_94 ⟨by decide, fun _ => c7_reading (by decide) (s7_reads ⟨by decide, ?_⟩), fun z => absurd (Int.le_refl _) z⟩
    rintro _ rfl
    refine k _ ?_
    rw [← hY2.2]
    have hx := hY2.1.v W.2.1
    have e17 : h2 32 0 (9 + 8) = dS r 310 := by rw [eo 32 (by decide) (by decide)]; exact D.1.2.2.2.2.2.2.2.2
    rw [e17]
    have ad : ∀ j, 280 ≤ j → j ≠ 310 → adS (dS r) e c o x j = dS r j := by
      intro j a b
      unfold adS
      rw [if_neg b, if_neg (by omega), if_neg (by omega), if_neg (by omega), if_neg (by omega)]
    refine ⟨F2.tr (FrR.set ⟨rfl, by omega⟩), hi, R2.set (by decide), ?_, wf_risk W R2.2.2.1 h40 he hc ho hx, ?_⟩
    · obtain ⟨⟨n0, n1, n2, n3, n4, n5, n6, n7, n8⟩, d2, d3, d4⟩ := D
      refine ⟨⟨?_, ?_, ?_, ?_, ?_, ?_, ?_, ?_, ?_⟩, fun w a b => ?_, fun g a b => ?_, fun j a b => ?_⟩
      · rw [mSet_kk (by decide), eo 32 (by decide) (by decide)]; exact n0.trans (ad 308 (by decide) (by decide)).symm
      · rw [mSet_kk (by decide), eo 32 (by decide) (by decide)]; exact n1
      · rw [mSet_kk (by decide), eo 32 (by decide) (by decide)]; exact n2.trans (ad 309 (by decide) (by decide)).symm
      · rw [mSet_kk (by decide), eo 32 (by decide) (by decide)]; exact n3
      · rw [mSet_kk (by decide), eo 32 (by decide) (by decide)]; exact n4.trans (ad 311 (by decide) (by decide)).symm
      · rw [mSet_kk (by decide), eo 32 (by decide) (by decide)]; exact n5.trans (ad 312 (by decide) (by decide)).symm
      · rw [mSet_kk (by decide), eo 32 (by decide) (by decide)]; exact n6.trans (ad 313 (by decide) (by decide)).symm
      · rw [mSet_kk (by decide), eo 32 (by decide) (by decide)]; exact n7
      · show mSet h2 32 0 17 _ 32 0 17 = adS (dS r) e c o x 310
        rw [mSet_e]
        unfold adS
        rw [if_pos rfl]
      · rw [mSet_o (by decide), eo 33 (by decide) (by decide)]; exact d2 w a b
      · have q := d3 g a b
        have b2 : g < nf (dP r) := b
        rw [mSet_o (by decide), mSet_o (by decide), mSet_o (by decide), mSet_o (by decide), mSet_o (by decide), mSet_o (by decide), eo 34 (by decide) (by decide), eo 35 (by decide) (by decide), eo 36 (by decide) (by decide), eo 37 (by decide) (by decide), eo 38 (by decide) (by decide), eo 39 (by decide) (by decide)]
        exact ⟨q.1, q.2.1, q.2.2.1, q.2.2.2.1, q.2.2.2.2.1, q.2.2.2.2.2.trans (ad _ (by omega) (by omega)).symm⟩
      · have b2 : j < 7 * adS (dS r) e c o x 310 := b
        have e310 : adS (dS r) e c o x 310 = dS r 310 + 1 := by unfold adS; rw [if_pos rfl]
        rw [e310] at b2
        rw [mSet_o (by decide)]
        show h2 40 0 j = adS (dS r) e c o x j
        unfold adS
        rw [if_neg (show j ≠ 310 by omega)]
        by_cases z0 : j = 7 * dS r 310 + 0
        · rw [if_pos z0, z0]; exact q0
        · rw [if_neg z0]
          by_cases z1 : j = 7 * dS r 310 + 1
          · rw [if_pos z1, z1]; exact q1
          · rw [if_neg z1]
            by_cases z2 : j = 7 * dS r 310 + 2
            · rw [if_pos z2, z2]; exact q2
            · rw [if_neg z2]
              by_cases z3 : 7 * dS r 310 + 3 ≤ j ∧ j < 7 * dS r 310 + 7
              · rw [if_pos z3]
                have := q3 (j - (7 * dS r 310 + 3)) (by omega) (by omega)
                rw [show 7 * dS r 310 + 3 + (j - (7 * dS r 310 + 3)) = j by omega] at this
                exact this
              · rw [if_neg z3]; exact e40 j a (by omega)
    · rw [mSet_o (by decide)]; exact e12
  · intro h2 i x R2 F2 eo e12 e40 q0 q1 q2 q3 hA hB hi
    have e16 : h2 32 0 (9 + 7) = nf (dP r) := by rw [eo 32 (by decide) (by decide)]; exact D.1.2.2.2.2.2.2.2.1
    refine s7_readRisk_94 ⟨by omega, fun z => by omega, fun _ => c7_reading (by decide) ?_⟩
    rw [e16]
    refine ⟨by omega, fun z => ⟨by omega, ?_⟩, fun z => ⟨by omega, ?_⟩⟩
    · rintro _ rfl
      have hX := hB z
      have hd := hX.1.2.2 f z (by omega)
      refine ih _ i x (R2.set (by decide)) (F2.tr (FrR.set ⟨rfl, by omega⟩)) (fun q a b => by rw [mSet_o (by omega)]; exact eo q a b) (by rw [mSet_o (by decide)]; exact e12) (fun j a b => by rw [mSet_kk (by omega)]; exact e40 j a b) (by rw [mSet_kk (by omega)]; exact q0) (by rw [mSet_kk (by omega)]; exact q1) (by rw [mSet_kk (by omega)]; exact q2) (fun g a b => ?_) (fun w => by omega) (fun _ => hX) hi
      by_cases u : g = f
      · rw [u, mSet_e, hd]
      · rw [mSet_kk (by omega)]; exact q3 g a (by omega)
    · have hX := hA (by omega)
      have hlv := W.2.1.2 f h5 (by omega)
      have e35 : h2 35 0 (4 + f) = lv (dP r) f := by rw [eo 35 (by decide) (by decide)]; exact (D.2.2.1 f h5 (by omega)).2.1
      have eK : (nf (dP r) - f).toNat = (nf (dP r) - (f + 1)).toNat + 1 := by omega
      rw [e35]
      have hY := hX.2
      rw [eK] at hY
      refine c7_num R2 (by decide) (by omega) (fun h3 e3 a3 b3 R3 F3 => ⟨by omega, ?_⟩) (fun h3 k3 e3 B3 F3 => ⟨by omega, ?_⟩)
      · rintro _ rfl
        have hY2 : lvK t n (dP r) (nf (dP r) - (f + 1)).toNat (f + 1) (tE t n i) (mOr x (mShl (tV t n i) (f * 3))) (fun i x => Sum.inr (i, dP r, dN r, adS (dS r) e c o x, dW r, dB r, dL r)) = Y := (e3 _).symm.trans hY
        have hX2 := hX.1.s W.2.1 ⟨h5, by omega⟩ ⟨a3, b3⟩
        have hd0 := hX.1.2.2 f (Int.le_refl _) (by omega)
        refine ih _ (tE t n i) (mOr x (mShl (tV t n i) (f * 3))) (R3.set (by decide)) ((F2.tr F3.fr).tr (FrR.set ⟨rfl, by omega⟩)) (fun q a b => by rw [mSet_o (by omega), F3.1 q 0 (by omega)]; exact eo q a b) (by rw [mSet_o (by decide), F3.2 12 (by omega)]; exact e12) (fun j a b => by rw [mSet_kk (by omega), F3.1 40 0 (by decide)]; exact e40 j a b) (by rw [mSet_kk (by omega), F3.1 40 0 (by decide)]; exact q0) (by rw [mSet_kk (by omega), F3.1 40 0 (by decide)]; exact q1) (by rw [mSet_kk (by omega), F3.1 40 0 (by decide)]; exact q2) (fun g a b => ?_) (fun _ => ⟨hX2, hY2⟩) (fun w => ?_) (by have := R2.up; omega)
        · rw [lvX_dg hX.1.1 (by omega) (by omega) (by omega) hd0]
          by_cases u : g = f
          · rw [if_pos u, u, mSet_e]
          · rw [if_neg u, mSet_kk (by omega), F3.1 40 0 (by decide)]; exact q3 g a (by omega)
        · have ef : f + 1 = nf (dP r) := by omega
          refine ⟨by rw [← ef]; exact hX2, ?_⟩
          rw [show (nf (dP r) - (f + 1)).toNat = 0 by omega] at hY2
          exact hY2
      · rintro _ rfl
        have hY2 : badE k3 (tP t n i) = Y := (e3 _).symm.trans hY
        refine c7_risk94F (h := h) (by omega) (nfv := nf (dP r)) (by omega) (fun h4 B4 F4 => k h4 ?_) (f + 1) (by omega) (by omega) _ (B3.set (by decide)) ((F2.tr F3.fr).tr (FrR.set ⟨rfl, by omega⟩)) (by rw [mSet_o (by decide), F3.1 32 0 (by decide)]; exact e16)
        rw [← hY2]
        exact ⟨F4, B4⟩
theorem c7_readRisk (R : RDt h t n (dI r)) (D : RDd h r) (W : WfD n r) (L : h 30 0 12 = dL r) {K : mH → Prop} (k : ∀ h2, PR t n (dI r) h (bdRisk t n r) h2 → K h2) : OkV M7_readRisk [mR 30 0] h K := by
  have hn := W.2.1.1.1
  have hm := W.2.2.1.1.1
  have e17 : h 32 0 (9 + 8) = dS r 310 := D.1.2.2.2.2.2.2.2.2
  refine s7_readRisk (c7_reading (by decide) (c7_reading (by decide) ?_))
  rw [e17]
  refine ⟨by omega, fun z => ?_, fun z => c7_bad R (by decide) (fun h2 B F => ?_)⟩
  · refine s7_readRisk_26 (c7_goOn R (fun h1 R1 F1 => c7_num R1 (by decide) (by decide) (fun h2 e2 a2 b2 R2 F2 => ?_) (fun h2 k2 e2 B2 F2 => ?_)))
    · refine c7_num R2 (by decide) (by decide) (fun h3 e3 a3 b3 R3 F3 => ?_) (fun h3 k3 e3 B3 F3 => ?_)
      · refine c7_num R3 (by decide) (by decide) (fun h4 e4 a4 b4 R4 F4 => ?_) (fun h4 k4 e4 B4 F4 => ?_)
        · have e18 := R4.2.2.2.2.2.2.2
          have FF := ((F1.tr F2).tr F3).tr F4
          refine ⟨by rw [e18]; decide, fun _ => ⟨by omega, ?_⟩, fun z => absurd e18 z⟩
          rintro _ rfl
          refine ⟨by omega, ?_⟩
          rintro _ rfl
          refine ⟨by omega, ?_⟩
          rintro _ rfl
          have eb : bdRisk t n r = lvK t n (dP r) (nf (dP r)).toNat 0 (tE t n (tE t n (tE t n (tE t n (dI r))))) 0 (fun i x => Sum.inr (i, dP r, dN r, adS (dS r) (tV t n (tE t n (dI r))) (tV t n (tE t n (tE t n (dI r)))) (tV t n (tE t n (tE t n (tE t n (dI r))))) x, dW r, dB r, dL r)) := by
            unfold bdRisk
            rw [if_neg z, e2, e3, e4]
          rw [eb] at k
          refine c7_risk94 D W L z ⟨a2, b2⟩ ⟨a3, b3⟩ ⟨a4, b4⟩ k 0 (by decide) (by decide) _ (tE t n (tE t n (tE t n (tE t n (dI r))))) 0 (((R4.set (by decide)).set (by decide)).set (by decide)) (((FF.fr.tr (FrR.set ⟨rfl, by omega⟩)).tr (FrR.set ⟨rfl, by omega⟩)).tr (FrR.set ⟨rfl, by omega⟩)) (fun q a b => by rw [mSet_o (by omega), mSet_o (by omega), mSet_o (by omega), FF.1 q 0 (by omega)]) (by rw [mSet_o (by decide), mSet_o (by decide), mSet_o (by decide), FF.2 12 (by omega)]; exact L) (fun j a b => by rw [mSet_kk (by omega), mSet_kk (by omega), mSet_kk (by omega), FF.1 40 0 (by decide)]; exact D.2.2.2 j a b) (by rw [mSet_kk (by omega), mSet_kk (by omega), mSet_e]) (by rw [mSet_kk (by omega), mSet_e]) mSet_e (fun g a b => by omega) (fun _ => ⟨LvX.z _, by rw [show (nf (dP r) - 0).toNat = (nf (dP r)).toNat by omega]⟩) (fun w => ?_) ?_
          · have ez : nf (dP r) = 0 := by omega
            rw [ez]
            exact ⟨LvX.z _, rfl⟩
          · have := R.up
            have := R1.up
            have := R2.up
            have := R3.up
            omega
        · refine ⟨B4.ne.2, fun z => absurd z B4.ne.1, fun _ => k h4 ?_⟩
          have eb : bdRisk t n r = badE k4 (tP t n (tE t n (tE t n (tE t n (dI r))))) := by
            unfold bdRisk
            rw [if_neg z, e2, e3, e4]
          rw [eb]
          exact ⟨(((F1.tr F2).tr F3).tr F4).fr, B4⟩
      · refine f7_num B3 ⟨B3.ne.2, fun z => absurd z B3.ne.1, fun _ => k h3 ?_⟩
        have eb : bdRisk t n r = badE k3 (tP t n (tE t n (tE t n (dI r)))) := by
          unfold bdRisk
          rw [if_neg z, e2, e3]
        rw [eb]
        exact ⟨((F1.tr F2).tr F3).fr, B3⟩
    · refine f7_num B2 (f7_num B2 ⟨B2.ne.2, fun z => absurd z B2.ne.1, fun _ => k h2 ?_⟩)
      have eb : bdRisk t n r = badE k2 (tP t n (tE t n (dI r))) := by
        unfold bdRisk
        rw [if_neg z, e2]
      rw [eb]
      exact ⟨(F1.tr F2).fr, B2⟩
  · refine s7_readRisk_26 (f7_goOn B (f7_num B (f7_num B (f7_num B ⟨B.ne.2, fun z => absurd z B.ne.1, fun _ => k h2 ?_⟩))))
    have eb : bdRisk t n r = badE 2 (tP t n (dI r)) := by unfold bdRisk; rw [if_pos z]
    rw [eb]
    exact ⟨F.fr, B⟩
end RLINE3
