/-! the class: the hardest hit, the most off -/
section OFF7
variable {h h2 : mH} {σ : Sg}
def sgC (w x : Int) : Int := if w = 0 then x else -x
theorem m_hardest (C : CG h σ) {K : Int → mH → Prop} {x1 : Int} (hx : mInR x1) (k : ∀ h2, CG h2 σ → FrM h h2 → K (q_hardest σ x1) h2) : OkI M6_hardest [mR 25 0, mI x1] h K := by
  have P := C.1
  have B := C.2.1
  have hs := B.wf
  have hm := B.m40
  refine s6_hardest (k_within hx (by decide) (by decide) (fun a b => ⟨by decide, fun _ => k1_settle P B (fun h2 D Cc F => ?_), fun w => absurd w (by decide)⟩) (fun z => ⟨by decide, fun w => absurd rfl w, fun _ => ?_⟩))
  · have kk := k h2 (C.q F) F.mm
    unfold q_hardest at kk
    rw [if_pos ⟨a, b⟩] at kk
    have B2 := F.bk (c := 0) (by decide) B
    refine upI (P := fun r => ∀ x2 x3, x2 = fl (haG (gP σ) (gS σ) x1) (-2) r → ((r = 0 ∧ x2 = -2) ∨ (¬ r = 0 ∧ 0 ≤ x2 ∧ x2 < gS σ 310 ∧ x3 = sgC x1 (chg (gP σ) (gS σ) (byN (gP σ) (gS σ)) x2))) → A6_hardest_26 K x1 x2 x3 r h2) (n := gS σ 310) (fun x2 x3 e _ => ?_) (fun r h5 h6 ih x2 x3 e hI => ?_) 0 (by omega) (by omega) (-2) 0 rfl (Or.inl ⟨rfl, rfl⟩)
    · refine s6_hardest_26 ?_
      rw [B2.m, e]
      exact ⟨by omega, fun _ => kk, fun z => absurd (Int.le_refl _) z⟩
    · rw [fl_s _ _ h5, ← e] at ih
      have hc := chg_bd (f := byN (gP σ) (gS σ)) hs h5 h6
      have nxt : A6_hardest_64 K x1 x2 x3 r (sgC x1 (chg (gP σ) (gS σ) (byN (gP σ) (gS σ)) r)) h2 := by
        have hb : -199998 ≤ sgC x1 (chg (gP σ) (gS σ) (byN (gP σ) (gS σ)) r) ∧ sgC x1 (chg (gP σ) (gS σ) (byN (gP σ) (gS σ)) r) ≤ 199998 := by
          unfold sgC
          split <;> omega
        refine s6_hardest_64 ⟨by omega, fun z => ?_, fun z => ?_⟩
        · have e2 : x2 = -2 := by omega
          exact ih r _ (if_pos (Or.inl e2)).symm (Or.inr ⟨by omega, h5, h6, rfl⟩)
        · have hI2 : 0 ≤ x2 ∧ x2 < gS σ 310 ∧ x3 = sgC x1 (chg (gP σ) (gS σ) (byN (gP σ) (gS σ)) x2) := by
            rcases hI with w | w
            · exact absurd w.1 z
            · exact w.2
          have hc2 := chg_bd (f := byN (gP σ) (gS σ)) hs hI2.1 hI2.2.1
          have hb2 : -199998 ≤ x3 ∧ x3 ≤ 199998 := by
            rw [hI2.2.2]
            unfold sgC
            split <;> omega
          have hcond : (x2 = -2 ∨ (if x1 = 0 then chg (gP σ) (gS σ) (byN (gP σ) (gS σ)) x2 < chg (gP σ) (gS σ) (byN (gP σ) (gS σ)) r else chg (gP σ) (gS σ) (byN (gP σ) (gS σ)) r < chg (gP σ) (gS σ) (byN (gP σ) (gS σ)) x2)) ↔ x3 < sgC x1 (chg (gP σ) (gS σ) (byN (gP σ) (gS σ)) r) := by
            rw [hI2.2.2]
            unfold sgC
            by_cases c : x1 = 0
            · rw [if_pos c, if_pos c, if_pos c]
              constructor
              · intro w
                rcases w with w | w
                · omega
                · exact w
              · exact fun w => Or.inr w
            · rw [if_neg c, if_neg c, if_neg c]
              constructor
              · intro w
                rcases w with w | w <;> omega
              · exact fun w => Or.inr (by omega)
          refine ⟨by omega, fun z2 => ?_, fun z2 => ?_⟩
          · exact ih x2 x3 (if_neg (fun w => by have := hcond.mp w; omega)).symm (Or.inr ⟨by omega, hI2⟩)
          · exact ih r _ (if_pos (hcond.mpr (by omega))).symm (Or.inr ⟨by omega, h5, h6, rfl⟩)
      unfold sgC at nxt
      refine s6_hardest_26 ?_
      rw [B2.m]
      refine ⟨by omega, fun z => by omega, fun _ => ⟨hx, fun z => k1_changeOf B2 Cc h5 h6 ?_, fun z => k1_changeOf B2 Cc h5 h6 ?_⟩⟩
      · rw [if_neg z] at nxt; exact nxt
      · rw [if_pos z] at nxt; exact nxt
  · have kk := k h C (FrM.rf h)
    unfold q_hardest at kk
    rw [if_neg z] at kk; exact kk
theorem pr_off {p : Pn} {s : Int → Int} (hp : WfP p) (hs : WfS p s) {r o1 o2 : Int} (h0 : 0 ≤ r) (h1 : r < s 310) (ho : 0 ≤ o1) (h12 : o1 ≤ o2) : pr p (up s 313 o2) r ≤ pr p (up s 313 o1) r := by
  have hm := hs.1.1
  have hn := hp.1.1
  have hr := hs.2.1 r h0 h1
  have hbh := bh_bd hp hs (e := s (7 * r + 0)) (by have := hr.1; omega) (g := fun f => s (7 * r + 3 + f)) (fun f a b => ⟨(hr.2.2.2 f a (by omega)).1, (hr.2.2.2 f a (by omega)).2.1 b⟩) (n := nf p) hn.1 (Int.le_refl _)
  have E : ∀ o, pr p (up s 313 o) r = if s (7 * r + 0) < s 312 then bh s (s (7 * r + 0)) (fun f => s (7 * r + 3 + f)) (nf p) else bh s (s (7 * r + 0)) (fun f => s (7 * r + 3 + f)) (nf p) - (bh s (s (7 * r + 0)) (fun f => s (7 * r + 3 + f)) (nf p) * o).tdiv 1000 := by
    intro o
    have e1 : bh (up s 313 o) (s (7 * r + 0)) (fun f => s (7 * r + 3 + f)) (nf p) = bh s (s (7 * r + 0)) (fun f => s (7 * r + 3 + f)) (nf p) := bh_congr (up_ne (by decide)) (fun f a b => up_ne (by have := (hr.2.2.2 f a (by omega)).2.1 b; have := (hr.2.2.2 f a (by omega)).1; have := hp.2 f a b; omega))
    have e2 : bh (up s 313 o) (s (7 * r + 0)) (fun f => up s 313 o (7 * r + 3 + f)) (nf p) = bh (up s 313 o) (s (7 * r + 0)) (fun f => s (7 * r + 3 + f)) (nf p) := bh_lev (fun f a b => up_ne (by omega))
    unfold pr prm
    rw [up_ne (j := 7 * r + 0) (by omega), up_ne (j := 312) (by decide), up_same, e2, e1]
  rw [E, E]
  split
  · exact Int.le_refl _
  · generalize bh s (s (7 * r + 0)) (fun f => s (7 * r + 3 + f)) (nf p) = y at *
    have h5 : y * o1 ≤ y * o2 := Int.mul_le_mul_of_nonneg_left h12 hbh.1
    rw [tdivb (Int.mul_nonneg hbh.1 ho), tdivb (Int.mul_nonneg hbh.1 (by omega))]
    generalize y * o1 = u at *
    generalize y * o2 = v at *
    omega
theorem moP_no {p : Pn} {s : Int → Int} (hp : WfP p) (hs : WfS p s) {o1 o2 : Int} (ho : 0 ≤ o1) (h12 : o1 ≤ o2) (h : moP p s o1 = false) : moP p s o2 = false := by
  unfold moP at h ⊢
  rw [decide_eq_false_iff_not] at h ⊢
  have := sm_mono (w := pr p (up s 313 o2)) (v := pr p (up s 313 o1)) (n := s 310) (fun r a b => pr_off hp hs a b ho h12)
  omega
theorem m_mostOff (C : CG h σ) {K : Int → mH → Prop} (k : ∀ h2, CG h2 σ → FrM h h2 → K (q_mostOff σ) h2) : OkI M6_mostOff [mR 25 0] h K := by
  have P := C.1
  have B := C.2.1
  have hp := B.wp
  have hs := B.wf
  have hw := whl_bd hs
  refine s6_mostOff (k0_copyFrom (by decide) (fun h2 Bc F => k0_sumC (F.q.bk (c := 0) (by decide) B) ?_))
  have key : ∀ n : Nat, ∀ x3 x4 x5 x6 o : Int, ∀ h', FrQ h h' → Bk h' 1 (gP σ) (up (gS σ) 313 o) → x6 + n = 9 → 0 ≤ x6 → 0 ≤ x4 → x5 ≤ 500 → x4 ≤ x5 + 1 → x5 - x4 + 1 < 2 ^ n → ((x4 = 0 ∧ x3 = -2) ∨ (0 < x4 ∧ x3 = x4 - 1 ∧ moP (gP σ) (gS σ) x3 = true)) → (∀ j, x5 < j → j < 501 → moP (gP σ) (gS σ) j = false) → A6_mostOff_40 K (whl (gS σ)) x3 x4 x5 x6 h' := by
    intro n
    induction n with
    | zero =>
      intro x3 x4 x5 x6 o h' F' B' e0 e1 e2 e3 e4 e5 e6 e7
      have e8 : x5 + 1 = x4 := by
        rw [show (2 : Int) ^ 0 = 1 from rfl] at e5
        omega
      have kk := k h' (C.q F') F'.mm
      have em : q_mostOff σ = x3 := by
        rcases e6 with ⟨w1, w2⟩ | ⟨w1, w2, w3⟩
        · rw [w2]; exact gr_no (fun i a b => e7 i (by omega) b)
        · exact gr_yes (by omega) (by omega) w3 (fun j a b => e7 j (by omega) b)
      rw [em] at kk
      exact s6_mostOff_40 ⟨by omega, fun _ => kk, fun _ => ⟨by omega, fun _ => kk, fun z => by omega⟩⟩
    | succ n ih =>
      intro x3 x4 x5 x6 o h' F' B' e0 e1 e2 e3 e4 e5 e6 e7
      have hpow : (2 : Int) ^ (n + 1) = 2 * 2 ^ n := by rw [Int.pow_succ, Int.mul_comm]
      have em : 0 ≤ x4 + x5 → mShr (x4 + x5) 1 = (x4 + x5) / 2 := fun w => by
        rw [mShr_div w (by omega) (by decide) (by decide)]
        rfl
      refine s6_mostOff_40 ⟨by omega, fun z => by omega, fun _ => ⟨by omega, fun z => ?_, fun z => ?_⟩⟩
      · have kk := k h' (C.q F') F'.mm
        have em : q_mostOff σ = x3 := by
          rcases e6 with ⟨w1, w2⟩ | ⟨w1, w2, w3⟩
          · rw [w2]; exact gr_no (fun i a b => e7 i (by omega) b)
          · exact gr_yes (by omega) (by omega) w3 (fun j a b => e7 j (by omega) b)
        rw [em] at kk
        exact kk
      · rintro _ rfl
        rw [em (by omega), mSet_rs]
        have hwm : WfS (gP σ) (up (up (gS σ) 313 o) 313 ((x4 + x5) / 2)) := by rw [up_up]; exact hs.off hp (by omega)
        have B1 := B'.fld (k := 313) (c := 5) (v := (x4 + x5) / 2) (by decide) hwm
        rw [up_up] at B1 hwm
        have F1 : FrB 1 h' (rs h' 1 1 (up (h' 1 1) 5 ((x4 + x5) / 2))) := frB_rs (by decide)
        have G1 := F'.tr F1.q
        have hpd := paid_bd hp hwm
        rw [up_ne (by decide)] at hpd
        refine k2_sumPaid (G1.pl P) B1 (fun h3 D F3 => ?_)
        rw [up_ne (j := 310) (by decide)]
        have B3 := F3.bk B1
        generalize (2 : Int) ^ n = t at *
        refine ⟨by omega, fun z2 => ih _ _ _ _ _ h3 (G1.tr F3.q) B3 (by omega) (by omega) e2 (by omega) (by omega) (by omega) e6 (fun j a b => ?_), fun z2 => ih _ _ _ _ _ h3 (G1.tr F3.q) B3 (by omega) (by omega) (by omega) e3 (by omega) (by omega) (Or.inr ⟨by omega, by omega, decide_eq_true (by omega)⟩) e7⟩
        have hf : moP (gP σ) (gS σ) ((x4 + x5) / 2) = false := decide_eq_false (by omega)
        exact moP_no hp hs (show 0 ≤ (x4 + x5) / 2 by omega) (show (x4 + x5) / 2 ≤ j by omega) hf
  have B2 : Bk h2 1 (gP σ) (up (gS σ) 313 (gS σ 313)) := by rw [up_self]; exact Bc _ _ B
  exact key 9 (-2) 0 500 0 _ h2 F.q B2 (by decide) (by decide) (by decide) (by decide) (by decide) (by decide) (Or.inl ⟨rfl, rfl⟩) (fun j a b => by omega)
end OFF7
