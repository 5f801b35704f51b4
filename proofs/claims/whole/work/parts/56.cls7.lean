/-! the class: turns and rounds -/
theorem mXorL_sg {x y : Int} (hx : mInL x) (hy : mInL y) : mXorL x y < 0 ↔ ¬ (x < 0 ↔ y < 0) := by
  have e1 : (Int64.ofInt x).toInt = x := Int64.toInt_ofInt_of_le (by exact hx.1) (by exact hx.2)
  have e2 : (Int64.ofInt y).toInt = y := Int64.toInt_ofInt_of_le (by exact hy.1) (by exact hy.2)
  have m1 : (Int64.ofInt x).toBitVec.msb = decide (x < 0) := by
    rw [BitVec.msb_eq_toInt]
    show decide ((Int64.ofInt x).toInt < 0) = _
    rw [e1]
  have m2 : (Int64.ofInt y).toBitVec.msb = decide (y < 0) := by
    rw [BitVec.msb_eq_toInt]
    show decide ((Int64.ofInt y).toInt < 0) = _
    rw [e2]
  have m3 : ((Int64.ofInt x).toBitVec ^^^ (Int64.ofInt y).toBitVec).msb = decide (mXorL x y < 0) := by
    rw [BitVec.msb_eq_toInt]
    rfl
  rw [BitVec.msb_xor, m1, m2] at m3
  by_cases a : x < 0 <;> by_cases c : y < 0 <;> simp [a, c] at m3 ⊢ <;> omega
theorem mXorL_L (x y : Int) : mInL (mXorL x y) := by
  unfold mXorL
  generalize Int64.ofInt x ^^^ Int64.ofInt y = z
  exact ⟨by have := z.le_toInt; exact this, by have := z.toInt_lt; exact this⟩
section CLS7
variable {h h2 : mH} {b : Int} {p : Pn} {s nm : Int → Int}
theorem k_floorDiv {K : Int → mH → Prop} {x0 x2 : Int} (h0 : mInL x0) (h2 : 0 < x2) (h3 : x2 < 9223372036854775808) (k : K (x0 / x2) h) : OkJ MJ9_floorDiv_f86c9 [mJ x0, mJ x2] h K := by
  have hx := mXorL_sg h0 (show mInL x2 by omega)
  refine sJ9_floorDiv_f86c9 ⟨⟨h0, by omega, by omega⟩, mXorL_L _ _, fun z => ?_, fun z => ?_⟩
  · have : 0 ≤ x0 := by
      by_cases c : x0 < 0
      · exact absurd (hx.mpr (by omega)) (by omega)
      · omega
    rw [tdivb this]
    exact k
  · have hn : x0 < 0 := by
      by_cases c : x0 < 0
      · exact c
      · exact absurd (hx.mp (by omega)) (by omega)
    have hf := flo (u := x0) h2
    have hb : -9223372036854775808 ≤ x0.tdiv x2 * x2 ∧ x0.tdiv x2 * x2 ≤ 0 := by
      have e1 : x0.tdiv x2 = -((-x0) / x2) := by rw [← tdivb (show 0 ≤ -x0 by omega), Int.neg_tdiv, Int.neg_neg]
      have e2 := Int.ediv_mul_le (-x0) (show x2 ≠ 0 by omega)
      have e3 : 0 ≤ (-x0) / x2 * x2 := Int.mul_nonneg (Int.ediv_nonneg (by omega) (by omega)) (by omega)
      rw [e1, Int.neg_mul]
      omega
    refine ⟨⟨⟨hb.1, by omega⟩, h0⟩, fun z2 => ?_, fun z2 => ?_⟩
    · rw [hf.1 (by omega)]; exact k
    · have e1 : x0.tdiv x2 = -((-x0) / x2) := by rw [← tdivb (show 0 ≤ -x0 by omega), Int.neg_tdiv, Int.neg_neg]
      have e2 := Int.ediv_mul_le (-x0) (show x2 ≠ 0 by omega)
      have e4 : x0.tdiv x2 * x2 = -((-x0) / x2 * x2) := by rw [e1, Int.neg_mul]
      rw [hf.2 (by omega)]; exact k
/-- what level l's relativity becomes -/
def tvL (p : Pn) (s : Int → Int) (f l : Int) : Int := tv p s f (fs s f l) (s (280 + 6 * f + l))
theorem tvL_bd (hp : WfP p) (hs : WfS p s) {f l : Int} (h0 : 0 ≤ f) (h1 : f < nf p) (h2 : 0 ≤ l) (h3 : l < lv p f) : 1 ≤ tvL p s f l ∧ tvL p s f l ≤ 99999 := by
  have hr := rel_bd hp hs h0 h1 h2 h3
  have hf := fs_le (s := s) (f := f) h2
  have hn := nv_bd hp hs h0 h1 (c := fs s f l) hf.1 (by omega)
  have hb := hp.2 f h0 h1
  unfold tvL tv
  split <;> omega
theorem tvL_j (hp : WfP p) (hs : WfS p s) {f l : Int} (h0 : 0 ≤ f) (h1 : f < nf p) (h2 : 0 ≤ l) (h3 : l + 1 < lv p f) (hj : ¬ fs s f (l + 1) = l + 1) : tvL p s f (l + 1) = tvL p s f l := by
  have e : fs s f (l + 1) = fs s f l := by
    rw [fs_s h2] at hj ⊢
    split at hj
    · rename_i z; rw [if_pos z]
    · exact absurd rfl hj
  have r1 := rel_fsI hp hs h0 h1 (l := l + 1) (by omega) h3
  have r2 := rel_fsI hp hs h0 h1 (l := l) (by omega) (by omega)
  unfold tvL
  rw [e] at r1 ⊢
  rw [← r1, ← r2]
theorem k2_turned (P : Pl h 0 p nm) (B : Bk h b p s) {K : Int → mH → Prop} {f l : Int} {g : Int → Int} (h0 : 0 ≤ f) (h1 : f < nf p) (G : Gd h b p s f) (h2 : 0 ≤ l) (h3 : l < lv p f) (hl : fs s f l = l) (hg : g (8 * f + l) = s (280 + 6 * f + l)) (k : K (tvL p s f l) (rs h 6 b g)) : OkI M2_turned [mR 12 b, mI f, mI (8 * f + l)] (rs h 6 b g) K := by
  have hp := B.wp
  have hs := B.wf
  have h4 := hp.1.1
  have hpf := hp.2 f h0 h1
  have hgd := G l h2 h3 hl
  have hc := csC_bd hs f l
  have hP := csP_bd hp hs f l
  have hE := csE_bd hs f l
  have hr := rel_bd hp hs h0 h1 h2 h3
  have ht := hs.1.2.2.2.1
  have hm := mulb (x := s (280 + 6 * f + l)) (y := csC s f l) (A := 99999) (B := 3999960) (by omega) hc
  refine s2_turned ?_
  have e6 : rs h 6 b g 6 b (8 * f + l) = s (280 + 6 * f + l) := by rw [rs_same, hg]
  have e1 : rs h 6 b g 1 b 3 = s 311 := by rw [rs_r (by decide)]; exact B.1.2.2.2.1
  have e14 : rs h 6 b g 14 b (8 * f + l) = csC s f l := by rw [rs_r (by decide)]; exact hgd.1
  have e15 : rs h 6 b g 15 b (8 * f + l) = csP p s f l := by rw [rs_r (by decide)]; exact hgd.2.1
  have e16 : rs h 6 b g 16 b (8 * f + l) = csE s f l := by rw [rs_r (by decide)]; exact hgd.2.2.1
  have e10 : rs h 6 b g 10 0 f = lo p f := by rw [rs_r (by decide)]; exact P.lo h0 h1
  have e11 : rs h 6 b g 11 0 f = hi p f := by rw [rs_r (by decide)]; exact P.hi h0 h1
  rw [e6, e14, e15, e10, e11]
  unfold tvL tv at k
  rw [hl] at k
  refine ⟨by omega, by omega, by omega, fun z => ?_, fun z => ?_⟩
  · rw [if_neg (by omega)] at k
    have hq : 0 ≤ (s (280 + 6 * f + l) * csC s f l).tdiv (csP p s f l) ∧ (s (280 + 6 * f + l) * csC s f l).tdiv (csP p s f l) ≤ 399992000040 := by
      rw [tdivb hm.1]
      have a1 := Int.ediv_nonneg hm.1 (show 0 ≤ csP p s f l by omega)
      have a2 := Int.ediv_le_self (csP p s f l) hm.1
      omega
    have hw := wi_bd (v := (s (280 + 6 * f + l) * csC s f l).tdiv (csP p s f l)) (a := lo p f) (b := hi p f) (by omega)
    refine ⟨by omega, by omega, by omega, by omega, by omega, k_clamp (by omega) (by omega) (by omega) (by omega) ?_⟩
    rw [e1, e16]
    unfold nv at k
    generalize wi ((s (280 + 6 * f + l) * csC s f l).tdiv (csP p s f l)) (lo p f) (hi p f) = v at *
    refine ⟨by omega, by omega, by omega, fun z2 => ?_, fun z2 => ⟨by omega, fun z3 => ⟨by omega, by omega, by omega, k_floorDiv ?_ z3 (by omega) ?_⟩, fun z3 => by omega⟩⟩
    · rw [if_pos (by omega)] at k; exact k
    · rcases Int.le_total 0 (v - s (280 + 6 * f + l)) with a | a
      · have := mulb (x := v - s (280 + 6 * f + l)) (y := csE s f l) (A := 99999) (B := 3960) (by omega) hE
        omega
      · have := mulb (x := -(v - s (280 + 6 * f + l))) (y := csE s f l) (A := 99999) (B := 3960) (by omega) hE
        rw [Int.neg_mul] at this
        omega
    · rw [if_neg (by omega)] at k; exact k
  · rw [if_pos (by omega)] at k; exact k
/-- another row of relativities leaves the sums and premiums as they are -/
theorem Bk.row6 (B : Bk h b p s) {t g : Int → Int} (hw : WfS p t) (e : ∀ j, 0 ≤ j → j < 280 ∨ 304 ≤ j → t j = s j) (hg : ∀ f, 0 ≤ f → f < nf p → ∀ l, 0 ≤ l → l < lv p f → g (8 * f + l) = t (280 + 6 * f + l)) : Bk (rs h 6 b g) b p t := B.rel hw e hg
/-- the book and the fit's rows are touched -/
def FrY (b : Int) (h h2 : mH) : Prop := ∀ r j, ¬ (((13 ≤ r ∧ r ≤ 17) ∨ (1 ≤ r ∧ r ≤ 6)) ∧ j = b) → h2 r j = h r j
theorem FrY.rf (b : Int) (h : mH) : FrY b h h := fun _ _ _ => rfl
theorem FrY.tr {b : Int} {h h2 h3 : mH} (a : FrY b h h2) (c : FrY b h2 h3) : FrY b h h3 := fun r j z => (c r j z).trans (a r j z)
theorem FrF.y (F : FrF b h h2) : FrY b h h2 := fun r j z => F r j (fun w => z ⟨Or.inl ⟨w.1, w.2.1⟩, w.2.2⟩)
theorem FrB.y (F : FrB b h h2) : FrY b h h2 := fun r j z => F r j (fun w => z ⟨Or.inr ⟨w.1, w.2.1⟩, w.2.2⟩)
theorem FrY.pl (F : FrY b h h2) {q : Int} (P : Pl h q p nm) : Pl h2 q p nm := P.fr (fun r a d => F r q (by omega))
theorem FrY.bk (F : FrY b h h2) {c : Int} (hc : c ≠ b) (B : Bk h c p s) : Bk h2 c p s := B.fr (fun r a d => F r c (fun w => hc w.2))
def tuR (g : Int → Int) (p : Pn) (s : Int → Int) (f q : Int) : Int → Int := fun j => if 8 * f ≤ j ∧ j < 8 * f + q then tvL p s f (j - 8 * f) else g j
theorem tuR_s {g : Int → Int} {f q : Int} (h0 : 0 ≤ q) : up (tuR g p s f q) (8 * f + q) (tvL p s f q) = tuR g p s f (q + 1) := by
  funext j
  unfold up tuR
  by_cases c : j = 8 * f + q
  · rw [if_pos c, if_pos (by omega), c, show 8 * f + q - 8 * f = q by omega]
  · rw [if_neg c]
    by_cases d : 8 * f ≤ j ∧ j < 8 * f + q
    · rw [if_pos d, if_pos (by omega)]
    · rw [if_neg d, if_neg (by omega)]
theorem k2_turnOnce (P : Pl h 0 p nm) (B : Bk h b p s) {K : Int → mH → Prop} {f : Int} (h0 : 0 ≤ f) (h1 : f < nf p) (k : ∀ h2, Bk h2 b p (tuS p s f) → FrY b h h2 → K (tc p s f) h2) : OkI M2_turnOnce [mR 12 b, mI f] h K := by
  have h4 := P.n4
  have hp := B.wp
  have hs := B.wf
  have hb := P.pf h0 h1
  refine s2_turnOnce (k2_price P B (fun hp1 D1 F1 => k2_gather (F1.bk B) D1 h0 h1 (fun h3 G D3 F3 => ?_)))
  have F := F1.tr F3
  have P3 := F.pl P
  have B3 := F.bk B
  have key := upI (P := fun l => ∀ x3, (0 < l → x3 = tvL p s f (l - 1)) → A2_turnOnce_18 K b f (sm (tcL p s f) l) x3 l (rs h3 6 b (tuR (h3 6 b) p s f l))) (n := lv p f) (fun x3 hx => ?_) (fun l h5 h6 ih x3 hx => ?_) 0 (by omega) (by omega) 10000 (fun z => absurd z (by decide))
  · have e : tuR (h3 6 b) p s f 0 = h3 6 b := by
      funext j
      unfold tuR
      rw [if_neg (by omega)]
    rw [e, rs_self] at key
    exact key
  · refine s2_turnOnce_18 ⟨by omega, ?_⟩
    rw [rs_r (by decide), P3.lv h0 h1]
    refine ⟨by omega, fun _ => k _ (B3.row6 (tuS_wf hp hs h0 h1) (fun j _ hj => by unfold tuS; rw [if_neg (by omega)]) (fun g a c m d e => ?_)) (F.y.tr (frB_rs (by decide)).y), fun z => absurd (Int.le_refl _) z⟩
    have hg := P.pf a c
    unfold tuR tuS
    by_cases x : g = f
    · subst x
      rw [if_pos (by omega), if_pos (by omega), show 8 * g + m - 8 * g = m by omega, show 280 + 6 * g + m - (280 + 6 * g) = m by omega]
      rfl
    · rw [if_neg (by omega), if_neg (by omega)]
      exact B3.l a c d e
  · rw [sm_s _ h5] at ih
    have B6 : BJ (rs h3 6 b (tuR (h3 6 b) p s f l)) b p s := B3.j.fr (rs_r (by decide))
    have hr := rel_bd hp hs h0 h1 h5 h6
    have htv := tvL_bd hp hs h0 h1 h5 h6
    have eg : tuR (h3 6 b) p s f l (8 * f + l) = s (280 + 6 * f + l) := by
      unfold tuR
      rw [if_neg (by omega)]
      exact B3.l h0 h1 h5 h6
    have nx2 : ∀ x, x = tvL p s f l → 0 < l + 1 → x = tvL p s f (l + 1 - 1) := fun x e _ => by rw [e, show l + 1 - 1 = l by omega]
    refine s2_turnOnce_18 ⟨by omega, ?_⟩
    rw [rs_r (r' := 9) (by decide), P3.lv h0 h1]
    refine ⟨by omega, fun z => by omega, fun _ => k_slot (by omega) (by omega) (k0_startsClass B6 h4.2 h0 h1 h5 (by omega) (fun z => ⟨by decide, fun w => absurd w (by decide), fun _ => k2_turned P3 B3 h0 h1 G h5 h6 z eg ⟨by omega, ?_⟩⟩) (fun z => ⟨by decide, fun _ => ⟨by omega, ?_⟩, fun w => absurd rfl w⟩))⟩
    · rw [rs_same, eg]
      have etv : tvL p s f l = if csP p s f l = 0 then s (280 + 6 * f + l) else nv p s f l := by
        unfold tvL tv
        rw [z]
      refine ⟨by omega, fun z2 => ⟨by omega, ?_⟩, fun z2 => ⟨by omega, ?_⟩⟩
      · rintro _ rfl
        rw [mSet_rs, rs_same, rs_rs, tuR_s h5]
        have e1 : tcL p s f l = 1 := by
          by_cases c : csP p s f l = 0
          · rw [if_pos c] at etv; exact absurd etv z2
          · rw [if_neg c] at etv
            exact if_pos ⟨z, c, by rw [← etv]; exact z2⟩
        rw [e1] at ih
        exact ih _ (nx2 _ rfl)
      · rintro _ rfl
        rw [mSet_rs, rs_same, rs_rs, tuR_s h5]
        have e1 : tcL p s f l = 0 := by
          refine if_neg (fun w => ?_)
          rw [if_neg w.2.1] at etv
          exact w.2.2 (by rw [← etv]; exact z2)
        rw [e1] at ih
        exact ih _ (nx2 _ rfl)
    · rintro _ rfl
      have hl0 : 0 < l := by
        by_cases c : l = 0
        · subst c; exact absurd rfl z
        · omega
      have e2 := tvL_j hp hs h0 h1 (l := l - 1) (by omega) (by omega) (by rw [show l - 1 + 1 = l by omega]; exact z)
      rw [show l - 1 + 1 = l by omega] at e2
      rw [hx hl0, ← e2, mSet_rs, rs_same, rs_rs, tuR_s h5]
      rw [show tcL p s f l = 0 from if_neg (fun w => z w.1), Int.add_zero] at ih
      exact ih _ (nx2 _ rfl)
end CLS7
