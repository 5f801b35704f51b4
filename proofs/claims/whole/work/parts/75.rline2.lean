/-! the reference reads a line: each word's own -/
section RLINE2
variable {h h2 h3 : mH} {t : Int → Int} {n i : Int} {r : Rd}
theorem RDt.up (R : RDt h t n i) : i ≤ tE t n i := by
  have := tE_bd (t := t) R.2.2.1.2
  have := tP_bd (t := t) R.2.2.1.2
  omega
theorem c7_onceE (R : RDt h t n (dI r)) (D : RDd h r) (W : WfD n r) (L : h 30 0 12 = dL r) {w lo hi : Int} (hw : 0 ≤ w ∧ w ≤ 5) (elo : loW w = lo) (ehi : hiW w = hi) {K : mH → Prop}
    (k1 : ∀ h2 v, dW r w = 0 → (∀ ok, nuK t n (tE t n (dI r)) (loW w) (hiW w) ok = ok v) → loW w ≤ v → v ≤ hiW w → RDt h2 t n (tE t n (tE t n (dI r))) → RDd h2 (tE t n (tE t n (dI r)), setP (dP r) w v, dN r, setS (dS r) w v, up (dW r) w 1, dB r, dL r) → FrR h h2 → h2 30 0 12 = dL r → K h2)
    (k0 : ∀ h2 k p, bdSet t n r w = badE k p → Bd n h2 k p → FrR h h2 → K h2) : OkV M7_readOnce [mR 30 0, mI w, mI lo, mI hi] h K := by
  subst elo
  subst ehi
  exact c7_once R D W L hw k1 k0
theorem RDt.up2 (R : RDt h t n i) : i ≤ tE t n (tE t n i) ∧ tE t n (tE t n i) ≤ n ∧ 0 ≤ tE t n (tE t n i) := by
  have a := R.up
  have b := R.eb
  have c := tE_bd (t := t) b.2
  have d := tP_bd (t := t) b.2
  omega
theorem tE_up {t : Int → Int} {n i : Int} (h : 0 ≤ i ∧ i ≤ n) : i ≤ tE t n i ∧ tE t n i ≤ n := by
  have c := tE_bd (t := t) h.2
  have d := tP_bd (t := t) h.2
  omega
/-- a setting but for fleet -/
theorem c7_set (R : RDt h t n (dI r)) (D : RDd h r) (W : WfD n r) (L : h 30 0 12 = dL r) {w lo hi : Int} (hw : 0 ≤ w ∧ w ≤ 4) (elo : loW w = lo) (ehi : hiW w = hi) {K : mH → Prop} (k : ∀ h2, PR t n (dI r) h (bdSet t n r w) h2 → K h2) : OkV M7_readOnce [mR 30 0, mI w, mI lo, mI hi] h K := by
  refine c7_onceE R D W L (by omega) elo ehi (fun h2 v hT e a b R2 D2 F2 L2 => k h2 ?_) (fun h2 k2 p e B F => k h2 ?_)
  · have eb : bdSet t n r w = Sum.inr (tE t n (tE t n (dI r)), setP (dP r) w v, dN r, setS (dS r) w v, up (dW r) w 1, dB r, dL r) := by
      unfold bdSet
      rw [if_pos hT, e, if_neg (by omega)]
    rw [eb]
    exact ⟨F2, R.up2.1, R2, D2, wf_set W (by have := R.up2; omega) (by omega) ⟨a, b⟩, L2⟩
  · rw [e]; exact ⟨F, B⟩
theorem c7_fleet (R : RDt h t n (dI r)) (D : RDd h r) (W : WfD n r) (L : h 30 0 12 = dL r) {K : mH → Prop} (k : ∀ h2, PR t n (dI r) h (bdSet t n r 5) h2 → K h2) : OkV M7_readFleet [mR 30 0] h K := by
  refine s7_readFleet (c7_onceE R D W L (by decide) rfl rfl (fun h2 v hT e a b R2 D2 F2 L2 => ?_) (fun h2 k2 p e B F => ?_))
  · refine c7_num R2 (by decide) (by decide) (fun h3 e3 a3 b3 R3 F3 => ?_) (fun h3 k3 e3 B3 F3 => ?_)
    · refine s7_reads ⟨by decide, ?_⟩
      rintro _ rfl
      refine k _ ?_
      have eb : bdSet t n r 5 = Sum.inr (tE t n (tE t n (tE t n (dI r))), setP (dP r) 5 v, dN r, up (setS (dS r) 5 v) 313 (tV t n (tE t n (tE t n (dI r)))), up (dW r) 5 1, dB r, dL r) := by
        unfold bdSet
        rw [if_pos hT, e, if_pos rfl, e3]
      rw [eb]
      have W2 := wf_set W (i := tE t n (tE t n (dI r))) (by have := R.up2; omega) (show (0 : Int) ≤ 5 ∧ (5 : Int) ≤ 5 by decide) ⟨a, b⟩
      have W3 := wf_off W2 (i := tE t n (tE t n (tE t n (dI r)))) R2.eb ⟨a3, b3⟩
      have D3 := D2.f30 F3
      refine ⟨(F2.tr F3.fr).tr (FrR.set ⟨rfl, by omega⟩), ?_, R3.set (by decide), ?_, W3, ?_⟩
      · have := R.up2.1
        have := R2.up
        show dI r ≤ tE t n (tE t n (tE t n (dI r)))
        omega
      · obtain ⟨⟨n0, n1, n2, n3, n4, n5, n6, n7, n8⟩, d2, d3, d4⟩ := D3
        have hn := W2.2.1.1.1
        have hm := W2.2.2.1.1.1
        refine ⟨⟨?_, ?_, ?_, ?_, ?_, ?_, ?_, ?_, ?_⟩, fun x c d => ?_, fun f c d => ?_, fun j c d => ?_⟩
        · rw [mSet_kk (by decide)]
          show h3 32 0 9 = up (setS (dS r) 5 v) 313 (tV t n (tE t n (tE t n (dI r)))) 308
          rw [up_ne (by decide)]
          exact n0
        · rw [mSet_kk (by decide)]; exact n1
        · rw [mSet_kk (by decide)]
          show h3 32 0 11 = up (setS (dS r) 5 v) 313 (tV t n (tE t n (tE t n (dI r)))) 309
          rw [up_ne (by decide)]
          exact n2
        · rw [mSet_kk (by decide)]; exact n3
        · rw [mSet_kk (by decide)]
          show h3 32 0 13 = up (setS (dS r) 5 v) 313 (tV t n (tE t n (tE t n (dI r)))) 311
          rw [up_ne (by decide)]
          exact n4
        · rw [mSet_kk (by decide)]
          show h3 32 0 14 = up (setS (dS r) 5 v) 313 (tV t n (tE t n (tE t n (dI r)))) 312
          rw [up_ne (by decide)]
          exact n5
        · show mSet h3 32 0 15 _ 32 0 15 = _
          rw [mSet_e]
          exact (up_same (setS (dS r) 5 v) 313 (tV t n (tE t n (tE t n (dI r))))).symm
        · rw [mSet_kk (by decide)]; exact n7
        · rw [mSet_kk (by decide)]
          show h3 32 0 17 = up (setS (dS r) 5 v) 313 (tV t n (tE t n (tE t n (dI r)))) 310
          rw [up_ne (by decide)]
          exact n8
        · rw [mSet_o (by decide)]; exact d2 x c d
        · rw [mSet_o (by decide), mSet_o (by decide), mSet_o (by decide), mSet_o (by decide), mSet_o (by decide), mSet_o (by decide)]
          have := d3 f c d
          have d5 : f < nf (dP r) := d
          have hn2 : 0 ≤ nf (dP r) ∧ nf (dP r) ≤ 4 := hn
          refine ⟨this.1, this.2.1, this.2.2.1, this.2.2.2.1, this.2.2.2.2.1, this.2.2.2.2.2.trans (up_ne (by omega)).symm⟩
        · rw [mSet_o (by decide)]
          have d5 : j < 7 * up (setS (dS r) 5 v) 313 (tV t n (tE t n (tE t n (dI r)))) 310 := d
          rw [up_ne (by decide)] at d5
          have hm2 : 0 ≤ setS (dS r) 5 v 310 ∧ setS (dS r) 5 v 310 ≤ 40 := hm
          exact (d4 j c d5).trans (up_ne (by omega)).symm
      · rw [mSet_o (by decide), F3.2 12 (by omega)]; exact L2
    · refine s7_reads ⟨by decide, ?_⟩
      rintro _ rfl
      refine k _ ?_
      have eb : bdSet t n r 5 = badE k3 (tP t n (tE t n (tE t n (dI r)))) := by
        unfold bdSet
        rw [if_pos hT, e, if_pos rfl, e3]
      rw [eb]
      exact ⟨(F2.tr F3.fr).tr (FrR.set ⟨rfl, by omega⟩), B3.set (by decide)⟩
  · refine f7_num B (s7_reads ⟨by decide, ?_⟩)
    rintro _ rfl
    refine k _ ?_
    rw [e]
    exact ⟨F.tr (FrR.set ⟨rfl, by omega⟩), B.set (by decide)⟩
/-! a factor -/
theorem c7_factor86F {k p x : Int} (B : Bd n h k p) {K : mH → Prop} (kk : K h) : A7_readFactor_86 K x h := s7_readFactor_86 ⟨B.ne.2, fun z => absurd z B.ne.1, fun _ => kk⟩
theorem c7_factor34F {k p x : Int} (B : Bd n h k p) {K : mH → Prop} (kk : K h) : A7_readFactor_34 K x h := s7_readFactor_34 (f7_goOn B ⟨B.ne.2, fun z => absurd z B.ne.1, fun _ => kk⟩)
theorem c7_readFactor (R : RDt h t n (dI r)) (D : RDd h r) (W : WfD n r) (L : h 30 0 12 = dL r) {K : mH → Prop} (k : ∀ h2, PR t n (dI r) h (bdFac t n r) h2 → K h2) : OkV M7_readFactor [mR 30 0] h K := by
  obtain ⟨n0, n1, n2, n3, n4, n5, n6, n7, n8⟩ := D.1
  have hn := W.2.1.1.1
  have hm := W.2.2.1.1.1
  refine s7_readFactor (c7_reading (by decide) ?_)
  rw [show (9 : Int) + 8 = 17 by decide, n8]
  refine ⟨by omega, fun z => c7_reading (by decide) ?_, fun z => c7_bad R (by decide) (fun h2 B F => c7_reading (by decide) ?_)⟩
  · rw [show (9 : Int) + 7 = 16 by decide, n7]
    refine ⟨by omega, fun z4 => ?_, fun z4 => c7_bad R (by decide) (fun h2 B F => c7_factor34F B (k h2 ?_))⟩
    · refine s7_readFactor_34 (c7_goOn R (fun h1 R1 F1 => ?_))
      have e18 := R1.2.2.2.2.2.2.2
      have e16 := R1.2.2.2.2.2.1
      have hsb := tS_bd (t := t) (n := n) (i := tE t n (dI r))
      have D1 := D.f30 F1
      refine ⟨by rw [e18]; decide, fun _ => ?_, fun w => absurd e18 w⟩
      rw [e16]
      have base : bdFac t n r = (if tS t n (tE t n (dI r)) = 1 then (if fnd (dP r) (dN r) (tV t n (tE t n (dI r))) = -1 then nuK t n (tE t n (tE t n (dI r))) 1 6 (fun v => Sum.inr (tE t n (tE t n (tE t n (dI r))), facP (dP r) v, up (dN r) (nf (dP r)) (tV t n (tE t n (dI r))), dS r, dW r, dB r, dL r)) else badE 3 (tP t n (tE t n (dI r)))) else badE 1 (tP t n (tE t n (dI r)))) := by
        unfold bdFac
        rw [if_neg (by omega), if_neg (by omega)]
      refine ⟨by omega, fun w => c7_reading (by decide) ?_, fun w => c7_bad R1 (by decide) (fun h2 B F2 => c7_factor86F B (k h2 ?_))⟩
      · rw [if_pos w] at base
        have e17 := R1.2.2.2.2.2.2.1 (Or.inr (Or.inl w))
        have hv := tV_bd (t := t) (n := n) (i := tE t n (dI r)) (Or.inr (Or.inl w))
        rw [show (9 : Int) + 7 = 16 by decide, show h1 32 0 16 = nf (dP r) from D1.1.2.2.2.2.2.2.2.1, e17]
        have hfb := fnd_bd W (tV t n (tE t n (dI r)))
        refine c7_namedR D1 W (by omega) ⟨by omega, fun y => ?_, fun y => c7_bad R1 (by decide) (fun h2 B F2 => c7_factor86F B (k h2 ?_))⟩
        · rw [if_pos y] at base
          refine s7_readFactor_86 ⟨by rw [e18]; decide, fun _ => ⟨by omega, ?_⟩, fun w => absurd e18 w⟩
          rw [e17]
          rintro _ rfl
          have R1b : RDt (mSet h1 34 0 (4 + nf (dP r)) (tV t n (tE t n (dI r)))) t n (tE t n (dI r)) := R1.set (by decide)
          have Fa : FrR h (mSet h1 34 0 (4 + nf (dP r)) (tV t n (tE t n (dI r)))) := F1.fr.tr (FrR.set ⟨rfl, by omega⟩)
          refine c7_tokN R1b (fun h2 R2 F2 => c7_num R2 (by decide) (by decide) (fun h3 e3 a3 b3 R3 F3 => ?_) (fun h3 k3 e3 B3 F3 => ?_))
          · rw [e3] at base
            have F4 := F2.tr F3
            refine ⟨by omega, ?_⟩
            rintro _ rfl
            refine ⟨by omega, ?_⟩
            rintro _ rfl
            refine ⟨by omega, ?_⟩
            rintro _ rfl
            refine ⟨by omega, ?_⟩
            rintro _ rfl
            refine ⟨by omega, ?_⟩
            rintro _ rfl
            refine c7_reading (by decide) (s7_reads ⟨by decide, ?_⟩)
            rintro _ rfl
            refine k _ ?_
            rw [base]
            have e32 : ∀ j, h3 32 0 j = h 32 0 j := fun j => by rw [F4.1 32 0 (by decide), mSet_o (by decide), F1.1 32 0 (by decide)]
            have e33 : ∀ j, h3 33 0 j = h 33 0 j := fun j => by rw [F4.1 33 0 (by decide), mSet_o (by decide), F1.1 33 0 (by decide)]
            have e34 : ∀ j, h3 34 0 j = if j = 4 + nf (dP r) then tV t n (tE t n (dI r)) else h 34 0 j := fun j => by rw [F4.1 34 0 (by decide), mSet_rs, rs_same, F1.1 34 0 (by decide)]; rfl
            have eo : ∀ q : Nat, 35 ≤ q → q ≤ 40 → h3 q 0 = h q 0 := fun q a b => by rw [F4.1 q 0 (by omega), mSet_o (by omega), F1.1 q 0 (by omega)]
            have ew : mSet (mSet (mSet (mSet (mSet h3 35 0 (4 + nf (dP r)) (tV t n (tE t n (tE t n (dI r))))) 36 0 (4 + nf (dP r)) 1000) 37 0 (4 + nf (dP r)) 50000) 38 0 (4 + nf (dP r)) 0) 39 0 (4 + nf (dP r)) 0 32 0 (9 + 7) = nf (dP r) := by
              rw [mSet_o (by decide), mSet_o (by decide), mSet_o (by decide), mSet_o (by decide), mSet_o (by decide)]
              exact (e32 16).trans n7
            rw [ew]
            refine ⟨((((((Fa.tr F4.fr).tr (FrR.set ⟨rfl, by omega⟩)).tr (FrR.set ⟨rfl, by omega⟩)).tr (FrR.set ⟨rfl, by omega⟩)).tr (FrR.set ⟨rfl, by omega⟩)).tr (FrR.set ⟨rfl, by omega⟩)).tr (FrR.set ⟨rfl, by omega⟩), ?_, (((((R3.set (by decide)).set (by decide)).set (by decide)).set (by decide)).set (by decide)).set (by decide), ?_, wf_fac W R2.eb (by omega) (by omega) ⟨a3, b3⟩ (by omega), ?_⟩
            · have := R.up
              have := R1.up
              have := R2.up
              show dI r ≤ tE t n (tE t n (tE t n (dI r)))
              omega
            · refine ⟨⟨?_, ?_, ?_, ?_, ?_, ?_, ?_, ?_, ?_⟩, fun x c d => ?_, fun f c d => ?_, fun j c d => ?_⟩
              · rw [mSet_kk (by decide), mSet_o (by decide), mSet_o (by decide), mSet_o (by decide), mSet_o (by decide), mSet_o (by decide), e32]; exact n0
              · rw [mSet_kk (by decide), mSet_o (by decide), mSet_o (by decide), mSet_o (by decide), mSet_o (by decide), mSet_o (by decide), e32]; exact n1
              · rw [mSet_kk (by decide), mSet_o (by decide), mSet_o (by decide), mSet_o (by decide), mSet_o (by decide), mSet_o (by decide), e32]; exact n2
              · rw [mSet_kk (by decide), mSet_o (by decide), mSet_o (by decide), mSet_o (by decide), mSet_o (by decide), mSet_o (by decide), e32]; exact n3
              · rw [mSet_kk (by decide), mSet_o (by decide), mSet_o (by decide), mSet_o (by decide), mSet_o (by decide), mSet_o (by decide), e32]; exact n4
              · rw [mSet_kk (by decide), mSet_o (by decide), mSet_o (by decide), mSet_o (by decide), mSet_o (by decide), mSet_o (by decide), e32]; exact n5
              · rw [mSet_kk (by decide), mSet_o (by decide), mSet_o (by decide), mSet_o (by decide), mSet_o (by decide), mSet_o (by decide), e32]; exact n6
              · exact mSet_e
              · rw [mSet_kk (by decide), mSet_o (by decide), mSet_o (by decide), mSet_o (by decide), mSet_o (by decide), mSet_o (by decide), e32]; exact n8
              · rw [mSet_o (by decide), mSet_o (by decide), mSet_o (by decide), mSet_o (by decide), mSet_o (by decide), mSet_o (by decide), e33]; exact D.2.1 x c d
              · have d2 : f < nf (dP r) + 1 := d
                have q34 : mSet (mSet (mSet (mSet (mSet (mSet h3 35 0 (4 + nf (dP r)) (tV t n (tE t n (tE t n (dI r))))) 36 0 (4 + nf (dP r)) 1000) 37 0 (4 + nf (dP r)) 50000) 38 0 (4 + nf (dP r)) 0) 39 0 (4 + nf (dP r)) 0) 32 0 (9 + 7) (nf (dP r) + 1) 34 0 (4 + f) = up (dN r) (nf (dP r)) (tV t n (tE t n (dI r))) f := by
                  rw [mSet_o (by decide), mSet_o (by decide), mSet_o (by decide), mSet_o (by decide), mSet_o (by decide), mSet_o (by decide), e34]
                  unfold up
                  by_cases u : f = nf (dP r)
                  · rw [if_pos u, if_pos (by omega)]
                  · rw [if_neg u, if_neg (by omega)]; exact (D.2.2.1 f c (by omega)).1
                refine ⟨q34, ?_, ?_, ?_, ?_, ?_⟩
                · show _ = up (lv (dP r)) (nf (dP r)) _ f
                  rw [mSet_o (by decide), mSet_o (by decide), mSet_o (by decide), mSet_o (by decide), mSet_o (by decide)]
                  by_cases u : f = nf (dP r)
                  · rw [u, up_same, mSet_e]
                  · rw [up_ne u, mSet_kk (by omega), eo 35 (by decide) (by decide)]; exact (D.2.2.1 f c (by omega)).2.1
                · show _ = up (lo (dP r)) (nf (dP r)) _ f
                  rw [mSet_o (by decide), mSet_o (by decide), mSet_o (by decide), mSet_o (by decide)]
                  by_cases u : f = nf (dP r)
                  · rw [u, up_same, mSet_e]
                  · rw [up_ne u, mSet_kk (by omega), mSet_o (by decide), eo 36 (by decide) (by decide)]; exact (D.2.2.1 f c (by omega)).2.2.1
                · show _ = up (hi (dP r)) (nf (dP r)) _ f
                  rw [mSet_o (by decide), mSet_o (by decide), mSet_o (by decide)]
                  by_cases u : f = nf (dP r)
                  · rw [u, up_same, mSet_e]
                  · rw [up_ne u, mSet_kk (by omega), mSet_o (by decide), mSet_o (by decide), eo 37 (by decide) (by decide)]; exact (D.2.2.1 f c (by omega)).2.2.2.1
                · show _ = dB r f
                  rw [mSet_o (by decide), mSet_o (by decide)]
                  by_cases u : f = nf (dP r)
                  · rw [u, mSet_e]; exact ((W.2.2.2.2.2.1 (nf (dP r)) (Int.le_refl _) (by omega)).2).symm
                  · rw [mSet_kk (by omega), mSet_o (by decide), mSet_o (by decide), mSet_o (by decide), eo 38 (by decide) (by decide)]; exact (D.2.2.1 f c (by omega)).2.2.2.2.1
                · show _ = dS r (304 + f)
                  rw [mSet_o (by decide)]
                  by_cases u : f = nf (dP r)
                  · rw [u, mSet_e]; exact ((W.2.2.2.2.2.1 (nf (dP r)) (Int.le_refl _) (by omega)).1).symm
                  · rw [mSet_kk (by omega), mSet_o (by decide), mSet_o (by decide), mSet_o (by decide), mSet_o (by decide), eo 39 (by decide) (by decide)]; exact (D.2.2.1 f c (by omega)).2.2.2.2.2
              · rw [mSet_o (by decide), mSet_o (by decide), mSet_o (by decide), mSet_o (by decide), mSet_o (by decide), mSet_o (by decide), eo 40 (by decide) (by decide)]; exact D.2.2.2 j c d
            · rw [mSet_o (by decide), mSet_o (by decide), mSet_o (by decide), mSet_o (by decide), mSet_o (by decide), mSet_o (by decide), F4.2 12 (by omega), mSet_o (by decide), F1.2 12 (by omega)]; exact L
          · rw [e3] at base
            have F4 := F2.tr F3
            refine ⟨by omega, ?_⟩
            rintro _ rfl
            refine ⟨by omega, ?_⟩
            rintro _ rfl
            refine ⟨by omega, ?_⟩
            rintro _ rfl
            refine ⟨by omega, ?_⟩
            rintro _ rfl
            refine ⟨by omega, ?_⟩
            rintro _ rfl
            refine c7_reading (by decide) (s7_reads ⟨by decide, ?_⟩)
            rintro _ rfl
            refine k _ ?_
            rw [base]
            exact ⟨((((((Fa.tr F4.fr).tr (FrR.set ⟨rfl, by omega⟩)).tr (FrR.set ⟨rfl, by omega⟩)).tr (FrR.set ⟨rfl, by omega⟩)).tr (FrR.set ⟨rfl, by omega⟩)).tr (FrR.set ⟨rfl, by omega⟩)).tr (FrR.set ⟨rfl, by omega⟩), (((((B3.set (by decide)).set (by decide)).set (by decide)).set (by decide)).set (by decide)).set (by decide)⟩
        · rw [if_neg y] at base
          rw [base]
          exact ⟨F1.fr.tr F2.fr, B⟩
      · rw [if_neg w] at base
        rw [base]
        exact ⟨F1.fr.tr F2.fr, B⟩
    · have base : bdFac t n r = badE 2 (tP t n (dI r)) := by unfold bdFac; rw [if_neg (by omega), if_pos (by omega)]
      rw [base]
      exact ⟨F.fr, B⟩
  · have base : bdFac t n r = badE 1 (tP t n (dI r)) := by unfold bdFac; rw [if_pos (by omega)]
    have e16b : h2 32 0 (9 + 7) = nf (dP r) := by rw [F.1 32 0 (by decide)]; exact n7
    rw [e16b]
    have fin : K h2 := k h2 (by rw [base]; exact ⟨F.fr, B⟩)
    exact ⟨by omega, fun _ => c7_factor34F B fin, fun _ => f7_wrong B (c7_factor34F B fin)⟩
end RLINE2
