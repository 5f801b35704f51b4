/-! the class: rounds, rebase, level -/
section CLS8
variable {h h2 : mH} {b : Int} {p : Pn} {s nm : Int → Int}
theorem tc_bd (hp : WfP p) (s : Int → Int) {f : Int} (h0 : 0 ≤ f) (h1 : f < nf p) : 0 ≤ tc p s f ∧ tc p s f ≤ 6 := by
  have hb := (hp.2 f h0 h1).1
  have := sm_bd (w := tcL p s f) (a := 0) (b := 1) (n := lv p f) (by omega) (fun l _ _ => by unfold tcL; split <;> decide)
  unfold tc
  omega
theorem tu_fix (hp : WfP p) (hs : WfS p s) {f : Int} (h0 : 0 ≤ f) (h1 : f < nf p) (h : tc p s f = 0) : tuS p s f = s := by
  have hb := (hp.2 f h0 h1).1
  have hz := smN_0 (w := tcL p s f) (lv p f).toNat (fun r _ _ => by unfold tcL; split <;> decide) h
  funext j
  unfold tuS
  by_cases c : 280 + 6 * f ≤ j ∧ j < 280 + 6 * f + lv p f
  · rw [if_pos c]
    have hf := fs_le (s := s) (f := f) (l := j - (280 + 6 * f)) (by omega)
    have h5 := hz (fs s f (j - (280 + 6 * f))) hf.1 (by omega)
    unfold tv
    by_cases d : csP p s f (fs s f (j - (280 + 6 * f))) = 0
    · rw [if_pos d]
    · rw [if_neg d]
      by_cases e : nv p s f (fs s f (j - (280 + 6 * f))) = s (280 + 6 * f + fs s f (j - (280 + 6 * f)))
      · rw [e, rel_fsI hp hs h0 h1 (by omega) (by omega), show 280 + 6 * f + (j - (280 + 6 * f)) = j by omega]
      · unfold tcL at h5
        rw [if_pos ⟨fs_fs _ _ _, d, e⟩] at h5
        exact absurd h5 (by decide)
  · rw [if_neg c]
theorem rn_fixN {q : Int} {i : Nat} (h : rd p q (rnN p q i s) = rnN p q i s) : ∀ n : Nat, rnN p q (i + n) s = rnN p q i s
  | 0 => rfl
  | n + 1 => by
    show rd p q (rnN p q (i + n) s) = _
    rw [rn_fixN h n, h]
theorem rn_fix {q i n : Int} (h0 : 0 ≤ i) (h1 : i ≤ n) (h : rd p q (rn p q i s) = rn p q i s) : rn p q n s = rn p q i s := by
  have := rn_fixN h (n.toNat - i.toNat)
  rw [show i.toNat + (n.toNat - i.toNat) = n.toNat by omega] at this
  exact this
theorem k2_playRounds (P : Pl h 0 p nm) (B : Bk h b p s) {K : Int → mH → Prop} {n q : Int} (hn : 0 ≤ n ∧ n ≤ 100) (hq : mInR q) (k : ∀ h2 m, (m = 0 ∨ m = 1) → (m = 0 → ∃ i, 0 ≤ i ∧ i < n ∧ rd p q (rn p q i s) = rn p q i s) → Bk h2 b p (rn p q n s) → FrY b h h2 → K m h2) : OkI M2_playRounds [mR 12 b, mI n, mI q] h K := by
  have h4 := P.n4
  have hp := B.wp
  refine s2_playRounds ?_
  refine upI (P := fun i => ∀ h' x3, (x3 = 0 ∨ x3 = 1) → (x3 = 0 → ∃ j, 0 ≤ j ∧ j < i ∧ rd p q (rn p q j s) = rn p q j s) → Bk h' b p (rn p q i s) → FrY b h h' → A2_playRounds_5 K b n q x3 i h') (n := n) (fun h' x3 hx he B' F => ?_) (fun i h5 h6 ih h' x3 hx he B' F => ?_) 0 (by omega) (by omega) h 1 (Or.inr rfl) (fun z => absurd z (by decide)) B (FrY.rf b h)
  · exact s2_playRounds_5 ⟨by omega, fun _ => ⟨hx, k h' x3 hx he B' F⟩, fun z => absurd (Int.le_refl _) z⟩
  · have hx3 : mInR x3 := by rcases hx with e | e <;> rw [e] <;> decide
    refine s2_playRounds_5 ⟨by clear he; omega, fun z => by clear he; omega, fun _ => ⟨hx3, fun z => ⟨hx, ?_⟩, fun z => ?_⟩⟩
    · obtain ⟨j, j0, j1, j2⟩ := he z
      refine k h' x3 hx (fun _ => ⟨j, j0, by omega, j2⟩) ?_ F
      rw [rn_fix j0 (by omega) j2, ← rn_fix (n := i) j0 (by omega) j2]
      exact B'
    · have hr := rn_s p q s h5
      refine upI (P := fun f => ∀ h' x3, (x3 = 0 ∨ x3 = 1) → (x3 = 0 → rdF p q f (rn p q i s) = rn p q i s) → Bk h' b p (rdF p q f (rn p q i s)) → FrY b h h' → A2_playRounds_20 K b n q x3 i f h') (n := nf p) (fun h' x3 hx he B' F => ?_) (fun f h7 h8 jh h' x3 hx he B' F => ?_) 0 (by omega) (by omega) h' 0 (Or.inl rfl) (fun _ => rdF_0 _ _ _) B' F
      · refine s2_playRounds_20 ?_
        rw [(F.pl P).n]
        refine ⟨by omega, fun _ => ih h' x3 hx (fun z => ⟨i, h5, by omega, he z⟩) (by rw [hr]; exact B') F, fun z => absurd (Int.le_refl _) z⟩
      · have hs2 := rdF_s p q (rn p q i s) h7
        refine s2_playRounds_20 ?_
        rw [(F.pl P).n]
        refine ⟨by omega, fun z => by omega, fun _ => ⟨⟨by omega, hq⟩, fun z => ?_, fun z => k2_turnOnce (F.pl P) B' h7 h8 (fun h2 B2 F2 => ?_)⟩⟩
        · rw [if_pos z] at hs2
          exact jh h' x3 hx (fun w => by rw [hs2]; exact he w) (by rw [hs2]; exact B') F
        · rw [if_neg z] at hs2
          have ht := tc_bd hp (rdF p q f (rn p q i s)) h7 h8
          rw [← hs2] at B2
          refine ⟨by omega, fun z2 => ?_, fun z2 => jh h2 1 (Or.inr rfl) (fun w => absurd w (by decide)) B2 (F.tr F2)⟩
          refine jh h2 x3 hx (fun w => ?_) B2 (F.tr F2)
          rw [hs2, tu_fix hp B'.wf h7 h8 (by omega)]
          exact he w
theorem k2_fit (P : Pl h 0 p nm) (B : Bk h b p s) {K : Int → mH → Prop} {n : Int} (hn : 0 ≤ n ∧ n ≤ 100) (k : ∀ h2, FrY b h h2 → K (fit p s n) h2) : OkI M2_roundsTillBalance [mR 12 b, mI n] h K := by
  have hp := B.wp
  refine s2_roundsTillBalance ?_
  refine upI (P := fun i => ∀ h' x2, (x2 = 0 ∨ x2 = 1) → (x2 = 0 → rd p (-1) (rn p (-1) i s) = rn p (-1) i s ∧ fiP p s i = false) → (∀ j, 0 ≤ j → j < i → fiP p s j = false) → Bk h' b p (rn p (-1) i s) → FrY b h h' → A2_roundsTillBalance_4 K b n x2 i h') (n := n + 1) (fun h' x2 hx he hj B' F => ?_) (fun i h5 h6 ih h' x2 hx he hj B' F => ?_) 0 (by omega) (by omega) h 1 (Or.inr rfl) (fun z => absurd z (by decide)) (fun j a c => by omega) B (FrY.rf b h)
  · have kk := k h' F
    rw [show fit p s n = -2 from ls_no hj] at kk
    exact s2_roundsTillBalance_4 ⟨by omega, fun _ => kk, fun z => absurd (by omega) z⟩
  · have hu := unb_bd hp (rn p (-1) i s)
    refine s2_roundsTillBalance_4 ⟨by omega, fun z => by omega, fun _ => ⟨by omega, fun z => ?_, fun z => k2_countUnbalanced (F.pl P) B' (fun h2 F2 => ⟨by omega, fun z2 => ?_, fun z2 => ?_⟩)⟩⟩
    · have kk := k h' F
      obtain ⟨e1, e2⟩ := he z
      rw [show fit p s n = -2 from ls_no (fun j a c => by
        by_cases d : j < i
        · exact hj j a d
        · have := rn_fix h5 (show i ≤ j by omega) e1
          unfold fiP at e2 ⊢
          rw [this]
          exact e2)] at kk
      exact kk
    · refine k2_playRounds (F2.pl (F.pl P)) (F2.bk B') (by decide) (by decide) (fun h3 m hm he3 B3 F3 => ?_)
      have e1 : rn p (-1) 1 (rn p (-1) i s) = rn p (-1) (i + 1) s := by rw [rn_1, ← rn_s _ _ _ h5]
      rw [e1] at B3
      have hfi : fiP p s i = false := decide_eq_false z2
      refine ih h3 m hm (fun w => ?_) (fun j a c => ?_) B3 ((F.tr F2.y).tr F3)
      · obtain ⟨j, j0, j1, j2⟩ := he3 w
        have j3 : j = 0 := by omega
        subst j3
        rw [rn_0] at j2
        have e2 : rn p (-1) (i + 1) s = rn p (-1) i s := by rw [rn_s _ _ _ h5, j2]
        refine ⟨by rw [e2]; exact j2, ?_⟩
        unfold fiP at hfi ⊢
        rw [e2]
        exact hfi
      · by_cases d : j = i
        · rw [d]; exact hfi
        · exact hj j a (by omega)
    · have kk := k h2 (F.tr F2.y)
      rw [show fit p s n = i from ls_yes h5 h6 (decide_eq_true z2) hj] at kk
      exact kk
theorem k2_rebase (P : Pl h 0 p nm) (B : Bk h b p s) {K : mH → Prop} (k : ∀ h2, Bk h2 b p (rbS p s) → FrY b h h2 → K h2) : OkV M2_rebaseBook [mR 12 b] h K := by
  have hp := B.wp
  have hs := B.wf
  have hpd := paid_bd hp hs
  have hw := whl_bd hs
  have hb := hs.1.2.1
  have hm := mulb (x := s 308) (y := whl s) (A := 99999) (B := 3999960) (by omega) hw
  refine s2_rebaseBook (k2_sumPaid P B (fun h1 D F => ?_))
  have B1 := F.bk B
  have kk := fun h2 => k h2
  unfold rbS at kk
  refine ⟨by omega, fun z => ?_, fun z => ?_⟩
  · rw [if_pos z] at kk
    exact kk h1 B1 F.y
  · rw [if_neg z] at kk
    rw [B1.1.2.1]
    refine ⟨by omega, k0_sumC B1 ⟨by omega, k_clamp ?_ (by decide) (by decide) (by decide) ?_⟩⟩
    · rw [tdivb hm.1]
      have a1 := Int.ediv_nonneg hm.1 (show 0 ≤ sm (pr p s) (s 310) by omega)
      have a2 := Int.ediv_le_self (sm (pr p s) (s 310)) hm.1
      omega
    · rintro _ rfl
      rw [mSet_rs]
      exact kk _ (B1.fld (k := 308) (c := 1) (by decide) (up308_wf hs (wi_bd (by decide)) hp)) (F.y.tr (frB_rs (by decide)).y)
theorem k2_widest (P : Pl h 0 p nm) (B : Bk h b p s) {K : Int → mH → Prop} {f : Int} (h0 : 0 ≤ f) (h1 : f < nf p) (G : Gd h b p s f) (k : K (8 * f + bw s f (lv p f - 1)) h) : OkI M2_widestClass [mR 12 b, mI f] h K := by
  have h4 := P.n4
  have hb := P.pf h0 h1
  refine s2_widestClass (k_slot (by omega) (by decide) ?_)
  have key := upI (P := fun l => A2_widestClass_8 K b f (8 * f + bw s f l) (l + 1) h) (n := lv p f - 1) ?_ (fun l h5 h6 ih => ?_) 0 (by omega) (by omega)
  · exact key
  · refine s2_widestClass_8 ⟨by omega, ?_⟩
    rw [P.lv h0 h1]
    exact ⟨by omega, fun _ => k, fun z => absurd (by omega) z⟩
  · have hw := bw_bd (s := s) (f := f) h5
    have hwf := bw_fs s f l
    rw [bw_s h5] at ih
    have g2 := G (bw s f l) hw.1 (by omega) hwf
    have hE1 := csE_bd B.wf f (bw s f l)
    have hE2 := csE_bd B.wf f (l + 1)
    refine s2_widestClass_8 ⟨by omega, ?_⟩
    rw [P.lv h0 h1]
    refine ⟨by omega, fun z => by omega, fun _ => k_slot (by omega) (by omega) (k0_startsClass B.j h4.2 h0 h1 (by omega) (by omega) (fun z => ⟨by decide, fun w => absurd w (by decide), fun _ => ⟨by omega, by omega, ?_⟩⟩) (fun z => ⟨by decide, fun _ => ?_, fun w => absurd rfl w⟩))⟩
    · rw [(G (l + 1) (by omega) (by omega) z).2.2.1, g2.2.2.1]
      refine ⟨by omega, fun z2 => ?_, fun z2 => ?_⟩
      · rw [if_neg (by omega)] at ih; exact ih
      · rw [if_pos ⟨z, by omega⟩] at ih; exact ih
    · rw [if_neg (fun w => z w.1)] at ih; exact ih
def dvL (p : Pn) (s : Int → Int) (f r l : Int) : Int := wi ((s (280 + 6 * f + l) * 10000).tdiv r) (lo p f) (hi p f)
def dvR (g : Int → Int) (p : Pn) (s : Int → Int) (f r q : Int) : Int → Int := fun j => if 8 * f ≤ j ∧ j < 8 * f + q then dvL p s f r (j - 8 * f) else g j
theorem dvR_s {g : Int → Int} {f r q : Int} (h0 : 0 ≤ q) : up (dvR g p s f r q) (8 * f + q) (dvL p s f r q) = dvR g p s f r (q + 1) := by
  funext j
  unfold up dvR
  by_cases c : j = 8 * f + q
  · rw [if_pos c, if_pos (by omega), c, show 8 * f + q - 8 * f = q by omega]
  · rw [if_neg c]
    by_cases d : 8 * f ≤ j ∧ j < 8 * f + q
    · rw [if_pos d, if_pos (by omega)]
    · rw [if_neg d, if_neg (by omega)]
theorem k2_divide (P : Pl h 0 p nm) (B : Bk h b p s) {K : mH → Prop} {f r : Int} (h0 : 0 ≤ f) (h1 : f < nf p) (hr : 1 ≤ r ∧ r ≤ 99999) (k : ∀ h2, Bk h2 b p (lvU p s f r (lv p f)) → FrB b h h2 → K h2) : OkV M2_divideRelativities [mR 12 b, mI f, mI r] h K := by
  have h4 := P.n4
  have hp := B.wp
  have hs := B.wf
  have hb := P.pf h0 h1
  refine s2_divideRelativities ⟨by omega, fun _ => ?_, fun z => by omega⟩
  have key := upI (P := fun l => A2_divideRelativities_7 K b f r l (rs h 6 b (dvR (h 6 b) p s f r l))) (n := lv p f) ?_ (fun l h5 h6 ih => ?_) 0 (by omega) (by omega)
  · have e : dvR (h 6 b) p s f r 0 = h 6 b := by
      funext j
      unfold dvR
      rw [if_neg (by omega)]
    rw [e, rs_self] at key
    exact key
  · refine s2_divideRelativities_7 ⟨by omega, ?_⟩
    rw [rs_r (by decide), P.lv h0 h1]
    refine ⟨by omega, fun _ => k _ (B.row6 (lvU_wf hp hs h0 h1 _ _) (fun j _ hj => lvU_off hp h0 h1 _ _ hj) (fun g a c m d e => ?_)) (frB_rs (by decide)), fun z => absurd (Int.le_refl _) z⟩
    have hg := P.pf a c
    unfold dvR
    by_cases x : g = f
    · subst x
      rw [if_pos (by omega), lvU_f _ _ d e, if_pos (by have := (fs_le (s := s) (f := g) d).2; omega), show 8 * g + m - 8 * g = m by omega]
      rfl
    · rw [if_neg (by omega), lvU_g hp h0 h1 _ _ a c d e x]
      exact B.l a c d e
  · have hrel := rel_bd hp hs h0 h1 h5 h6
    have eg : dvR (h 6 b) p s f r l (8 * f + l) = s (280 + 6 * f + l) := by
      unfold dvR
      rw [if_neg (by omega)]
      exact B.l h0 h1 h5 h6
    refine s2_divideRelativities_7 ⟨by omega, ?_⟩
    rw [rs_r (r' := 9) (by decide), P.lv h0 h1]
    refine ⟨by omega, fun z => by omega, fun _ => k_slot (by omega) (by omega) ⟨by omega, ?_⟩⟩
    rw [rs_same, eg, rs_r (r' := 10) (by decide), rs_r (r' := 11) (by decide), P.lo h0 h1, P.hi h0 h1]
    refine ⟨by omega, by omega, by omega, by omega, by omega, k_clamp ?_ (by omega) (by omega) (by omega) ⟨by omega, ?_⟩⟩
    · rw [tdivb (by omega)]
      have a1 := Int.ediv_nonneg (show 0 ≤ s (280 + 6 * f + l) * 10000 by omega) (show 0 ≤ r by omega)
      have a2 := Int.ediv_le_self r (show 0 ≤ s (280 + 6 * f + l) * 10000 by omega)
      omega
    · rintro _ rfl
      rw [mSet_rs, rs_same, rs_rs]
      have e2 := dvR_s (g := h 6 b) (p := p) (s := s) (f := f) (r := r) h5
      unfold dvL at e2
      rw [e2]
      exact ih
theorem k2_level (P : Pl h 0 p nm) (B : Bk h b p s) {K : mH → Prop} (k : ∀ h2, Bk h2 b p (lvS p s) → FrY b h h2 → K h2) : OkV M2_levelBook [mR 12 b] h K := by
  have h4 := P.n4
  have hp := B.wp
  have hs := B.wf
  have hm := B.m40
  refine s2_levelBook ?_
  rw [B.m]
  have kk := fun h2 => k h2
  unfold lvS at kk
  refine ⟨by omega, fun z => ?_, fun z => ?_⟩
  · rw [if_neg z] at kk
    refine upI (P := fun f => ∀ h', Bk h' b p (lvG p f s) → FrY b h h' → A2_levelBook_13 K b f h') (n := nf p) (fun h' B' F => ?_) (fun f h5 h6 ih h' B' F => ?_) 0 (by omega) (by omega) h B (FrY.rf b h)
    · refine s2_levelBook_13 ?_
      rw [(F.pl P).n]
      exact ⟨by omega, fun _ => kk h' B' F, fun z => absurd (Int.le_refl _) z⟩
    · have hb := P.pf h5 h6
      rw [lvG_s p s h5] at ih
      revert ih B'
      generalize lvG p f s = t
      intro ih B'
      refine s2_levelBook_13 ?_
      rw [(F.pl P).n]
      refine ⟨by omega, fun z => by omega, fun _ => k2_measure (F.pl P) B' h5 h6 (fun h2 G D F2 => ?_)⟩
      have F3 := F.tr F2.y
      have P2 := F3.pl P
      have B2 := F2.bk B'
      have hw := bw_bd (s := t) (f := f) (l := lv p f - 1) (by omega)
      have hr := rel_bd hp B2.wf h5 h6 hw.1 (show bw t f (lv p f - 1) < lv p f by omega)
      have hbase := B2.wf.1.2.1
      have hmul := mulb (x := t 308) (y := lvR p t f) (A := 99999) (B := 99999) (by omega) (by unfold lvR; omega)
      refine k2_widest P2 B2 h5 h6 G ⟨by omega, ?_⟩
      rw [B2.l h5 h6 hw.1 (by omega), B2.1.2.1]
      refine ⟨by omega, fun w => by omega, fun _ => ⟨by omega, by omega, ⟨by unfold lvR at hmul; omega, by unfold lvR at hmul; omega⟩, k_clamp ?_ (by decide) (by decide) (by decide) ?_⟩⟩
      · unfold lvR at hmul
        rw [tdivb hmul.1]
        omega
      · rintro _ rfl
        rw [mSet_rs]
        have B3 : Bk (rs h2 1 b (up (h2 1 b) 1 (lvB t (lvR p t f)))) b p (up t 308 (lvB t (lvR p t f))) := B2.fld (k := 308) (c := 1) (by decide) (up308_wf B2.wf (lvB_bd _ _) hp)
        have F4 : FrB b h2 (rs h2 1 b (up (h2 1 b) 1 (lvB t (lvR p t f)))) := frB_rs (by decide)
        refine k2_divide (F4.y.pl P2) B3 h5 h6 hr (fun h5' B5 F5 => ?_)
        exact ih h5' B5 ((F3.tr F4.y).tr F5.y)
  · rw [if_pos z] at kk
    exact kk h B (FrY.rf b h)
end CLS8
