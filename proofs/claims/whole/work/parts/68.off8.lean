/-! the class: feed, swing -/
theorem mI2b_eq (y : Int) : mI2b y = sgb (mAnd y 255) := by
  have e : mAnd y 255 = y % 256 := mAnd_mask (x := y) 8 (by decide)
  rw [e]
  unfold mI2b sgb
  rw [Int8.toInt_toInt32, Int32.toInt_toInt8, Int32.toInt_ofInt]
  have e2 : (Int32.size : Int) = 4294967296 := rfl
  simp only [Int.bmod, e2]
  have e3 : ((2 ^ 8 : Nat) : Int) = 256 := rfl
  simp only [e3]
  omega
theorem mI2b_id (y : Int) : mI2b (mI2b y) = mI2b y := by
  unfold mI2b
  rw [Int32.ofInt_toInt, Int8.toInt8_toInt32]
def apW (h : mH) (t x q : Int) : mH := rs (rs h 26 0 (fun j => if t ≤ j ∧ j < t + q then sgb (mAnd (mShr x (24 - 8 * (j - t))) 255) else h 26 0 j)) 25 0 (up (h 25 0) 1 (t + q))
section OFF8
variable {h : mH} {σ : Sg}
theorem apW_s {K : mH → Prop} {t x q : Int} (ht : 0 ≤ t ∧ t ≤ 896) (hq : 0 ≤ q ∧ q < 4) (k : A6_appendBytes_3 K x (24 - 8 * q + (-8)) (apW h t x (q + 1))) : A6_appendBytes_3 K x (24 - 8 * q) (apW h t x q) := by
  have e25 : apW h t x q 25 0 = up (h 25 0) 1 (t + q) := rs_same _ _ _ _
  have e1 : apW h t x q 25 0 1 = t + q := by rw [e25, up_same]
  refine s6_appendBytes_3 ⟨by omega, fun z => by omega, fun _ => ?_⟩
  rw [e1]
  refine ⟨by omega, fun z => by omega, fun _ => ⟨⟨by omega, mI2b_id _⟩, ?_⟩⟩
  rintro _ rfl _ rfl
  have e : mSet (mSet (apW h t x q) 26 0 (t + q) (mI2b (mShr x (24 - 8 * q)))) 25 0 1 (mSet (apW h t x q) 26 0 (t + q) (mI2b (mShr x (24 - 8 * q))) 25 0 1 + 1) = apW h t x (q + 1) := by
    have e2 : mSet (apW h t x q) 26 0 (t + q) (mI2b (mShr x (24 - 8 * q))) 25 0 = up (h 25 0) 1 (t + q) := by
      rw [mSet_rs, rs_r (by decide)]; exact e25
    rw [mSet_rs _ 25, e2, up_same]
    funext r i j
    unfold apW
    by_cases c : r = 25 ∧ i = 0
    · obtain ⟨rfl, rfl⟩ := c
      rw [rs_same, rs_same]
      unfold up
      by_cases d : j = 1
      · rw [if_pos d, if_pos d]; omega
      · rw [if_neg d, if_neg d, if_neg d]
    · rw [show rs (rs h 26 0 (fun j => if t ≤ j ∧ j < t + (q + 1) then sgb (mAnd (mShr x (24 - 8 * (j - t))) 255) else h 26 0 j)) 25 0 (up (h 25 0) 1 (t + (q + 1))) r i = rs h 26 0 (fun j => if t ≤ j ∧ j < t + (q + 1) then sgb (mAnd (mShr x (24 - 8 * (j - t))) 255) else h 26 0 j) r i from if_neg c]
      rw [show ∀ (g : mH) f, rs g 25 0 f r i = g r i from fun g f => if_neg c]
      rw [mSet_rs]
      by_cases d : r = 26 ∧ i = 0
      · obtain ⟨rfl, rfl⟩ := d
        rw [rs_same, rs_same, rs_r (by decide), rs_same]
        unfold up
        by_cases w : j = t + q
        · rw [if_pos w, if_pos (by omega), mI2b_eq, w, show t + q - t = q by omega]
        · rw [if_neg w]
          dsimp only
          by_cases w2 : t ≤ j ∧ j < t + q
          · rw [if_pos w2, if_pos (by omega)]
          · rw [if_neg w2, if_neg (by omega)]
      · rw [show ∀ (g : mH) f, rs g 26 0 f r i = g r i from fun g f => if_neg d]
        rw [show ∀ (g : mH) f, rs g 26 0 f r i = g r i from fun g f => if_neg d]
        rw [show ∀ (g : mH) f, rs g 25 0 f r i = g r i from fun g f => if_neg c]
        rw [show ∀ (g : mH) f, rs g 26 0 f r i = g r i from fun g f => if_neg d]
  rw [e]
  exact k
theorem m_append {K : mH → Prop} {t x : Int} (hh : h 25 0 1 = t) (ht : 0 ≤ t ∧ t ≤ 896) (k : ∀ h2, (∀ r i, r ≠ 25 → r ≠ 26 → h2 r i = h r i) → (∀ j, j ≠ 1 → h2 25 0 j = h 25 0 j) → h2 25 0 1 = t + 4 → (∀ j, j < t → h2 26 0 j = h 26 0 j) → (∀ q, 0 ≤ q → q < 4 → h2 26 0 (t + q) = sgb (mAnd (mShr x (24 - 8 * q)) 255)) → K h2) : OkV M6_appendBytes [mR 25 0, mI x] h K := by
  have e0 : apW h t x 0 = h := by
    unfold apW
    have a : (fun j => if t ≤ j ∧ j < t + 0 then sgb (mAnd (mShr x (24 - 8 * (j - t))) 255) else h 26 0 j) = h 26 0 := by
      funext j; rw [if_neg (by omega)]
    have b : up (h 25 0) 1 (t + 0) = h 25 0 := by
      funext j
      unfold up
      by_cases c : j = 1
      · rw [if_pos c, c, hh]; omega
      · rw [if_neg c]
    rw [a, b, rs_self, rs_self]
  have g := apW_s (h := h) (K := K) (t := t) (x := x) ht (q := 0) (by decide) (apW_s ht (q := 1) (by decide) (apW_s ht (q := 2) (by decide) (apW_s ht (q := 3) (by decide) ?_)))
  · rw [e0] at g
    exact s6_appendBytes g
  · refine s6_appendBytes_3 ⟨by decide, fun _ => ?_, fun z => absurd (by decide) z⟩
    have e25 : apW h t x (3 + 1) 25 0 = up (h 25 0) 1 (t + 4) := rs_same _ _ _ _
    have e26 : apW h t x (3 + 1) 26 0 = (fun j => if t ≤ j ∧ j < t + 4 then sgb (mAnd (mShr x (24 - 8 * (j - t))) 255) else h 26 0 j) := by
      unfold apW
      rw [rs_r (by decide), rs_same]
      rfl
    refine k _ (fun r i a b => ?_) (fun j a => ?_) ?_ (fun j a => ?_) (fun q a b => ?_)
    · unfold apW; rw [rs_r a, rs_r b]
    · rw [e25, up_ne a]
    · rw [e25, up_same]
    · rw [e26]; exact if_neg (by omega)
    · rw [e26]
      dsimp only
      rw [if_pos (by omega), show t + q - t = q by omega]
theorem m_feed (C : CG h σ) {K : Int → mH → Prop} {x1 x2 x3 x4 x5 : Int} (k1 : (gT σ).1 ≤ 880 → ∀ h2, CG h2 (fdS σ x1 x2 x3 x4 x5) → FrM h h2 → K ((gT σ).1 + 20) h2) (k0 : ¬ (gT σ).1 ≤ 880 → ∀ h2, CG h2 σ → FrM h h2 → K (-1) h2) : OkI M6_feed [mR 25 0, mI x1, mI x2, mI x3, mI x4, mI x5] h K := by
  have C' := C
  obtain ⟨c1, c2, ⟨i1, i2, i3⟩, ⟨u0, u1, u2, u3⟩, ⟨t1, t2, t3⟩, c6⟩ := C
  refine s6_feed ?_
  rw [t1]
  refine ⟨by omega, fun z => ?_, fun z => k0 (by omega) h C' (FrM.rf h)⟩
  refine m_append t1 (by omega) (fun h1 A1 B1 D1 E1 G1 => m_append D1 (by omega) (fun h2 A2 B2 D2 E2 G2 => m_append D2 (by omega) (fun h3 A3 B3 D3 E3 G3 => m_append D3 (by omega) (fun h4 A4 B4 D4 E4 G4 => m_append D4 (by omega) (fun h5 A5 B5 D5 E5 G5 => ?_)))))
  have A : ∀ r i, r ≠ 25 → r ≠ 26 → h5 r i = h r i := fun r i a b => by rw [A5 r i a b, A4 r i a b, A3 r i a b, A2 r i a b, A1 r i a b]
  have B : ∀ j, j ≠ 1 → h5 25 0 j = h 25 0 j := fun j a => by rw [B5 j a, B4 j a, B3 j a, B2 j a, B1 j a]
  have D : h5 25 0 1 = (gT σ).1 + 20 := by rw [D5]; omega
  have bo : ∀ {c : Int} {u : Int → Int}, Bk h c (gP σ) u → Bk h5 c (gP σ) u := fun Bc => Bc.fr (fun r a d => A r _ (by omega) (by omega))
  rw [D]
  refine k1 (by omega) h5 ⟨c1.fr (fun r a d => A r 0 (by omega) (by omega)), bo c2, ?_, ?_, ?_, ?_⟩ (fun r hr i => A r i (by omega) (by omega))
  · unfold CI
    rw [B 12 (by decide)]
    exact ⟨i1, i2, fun z => bo (i3 z)⟩
  · unfold CU
    rw [B 14 (by decide), B 15 (by decide)]
    exact ⟨u0, u1, u2, fun k a b => bo (u3 k a b)⟩
  · show h5 25 0 1 = (gT σ).1 + 20 ∧ (0 ≤ (gT σ).1 + 20 ∧ (gT σ).1 + 20 ≤ 900) ∧ ∀ j, 0 ≤ j → j < (gT σ).1 + 20 → h5 26 0 j = sgb (if j < (gT σ).1 then (gT σ).2 j else fdB x1 x2 x3 x4 x5 (j - (gT σ).1)) ∧ 0 ≤ (if j < (gT σ).1 then (gT σ).2 j else fdB x1 x2 x3 x4 x5 (j - (gT σ).1)) ∧ (if j < (gT σ).1 then (gT σ).2 j else fdB x1 x2 x3 x4 x5 (j - (gT σ).1)) ≤ 255
    refine ⟨D, by omega, fun j a b => ?_⟩
    by_cases w : j < (gT σ).1
    · rw [if_pos w, E5 j (by omega), E4 j (by omega), E3 j (by omega), E2 j (by omega), E1 j w]
      exact t3 j a w
    · rw [if_neg w]
      refine ⟨?_, fdB_bd _ _ _ _ _ _⟩
      unfold fdB fdA
      generalize hv : j - (gT σ).1 = v
      have hj : j = (gT σ).1 + v := by omega
      by_cases w1 : v < 4
      · rw [if_neg (by omega), if_neg (by omega), if_neg (by omega), if_neg (by omega), show v % 4 = v by omega, E5 j (by omega), E4 j (by omega), E3 j (by omega), E2 j (by omega), hj]
        exact G1 v (by omega) w1
      · by_cases w2 : v < 8
        · rw [if_neg (by omega), if_neg (by omega), if_neg (by omega), if_pos (by omega), show v % 4 = v - 4 by omega, E5 j (by omega), E4 j (by omega), E3 j (by omega), show j = (gT σ).1 + 4 + (v - 4) by omega]
          exact G2 (v - 4) (by omega) (by omega)
        · by_cases w3 : v < 12
          · rw [if_neg (by omega), if_neg (by omega), if_pos (by omega), show v % 4 = v - 8 by omega, E5 j (by omega), E4 j (by omega), show j = (gT σ).1 + 4 + 4 + (v - 8) by omega]
            exact G3 (v - 8) (by omega) (by omega)
          · by_cases w4 : v < 16
            · rw [if_neg (by omega), if_pos (by omega), show v % 4 = v - 12 by omega, E5 j (by omega), show j = (gT σ).1 + 4 + 4 + 4 + (v - 12) by omega]
              exact G4 (v - 12) (by omega) (by omega)
            · rw [if_pos (by omega), show v % 4 = v - 16 by omega, show j = (gT σ).1 + 4 + 4 + 4 + 4 + (v - 16) by omega]
              exact G5 (v - 16) (by omega) (by omega)
  · unfold CF
    rw [B 2 (by decide), B 3 (by decide)]
    exact c6
/-! a level in the packed word replaced -/
theorem sw_or {a b k : Int} (h0 : 0 ≤ k) (h1 : k < 32) : mAnd (mShr (mOr a b) k) 7 = mOr (mAnd (mShr a k) 7) (mAnd (mShr b k) 7) := by
  unfold mAnd mShr mOr
  simp only [Int32.ofInt_toInt]
  congr 1
  apply b_ext
  intro i hi
  rw [o32_nI h0]
  simp only [b_and, b_or]
  rw [b_sshr _ (by omega) _ hi, b_sshr _ (by omega) _ hi, b_sshr _ (by omega) _ hi]
  split <;> simp only [b_or] <;> rw [Bool.and_or_distrib_right]
theorem sw_and {a b k : Int} (h0 : 0 ≤ k) (h1 : k < 32) : mAnd (mShr (mAnd a b) k) 7 = mAnd (mAnd (mShr a k) 7) (mAnd (mShr b k) 7) := by
  unfold mAnd mShr
  simp only [Int32.ofInt_toInt]
  congr 1
  apply b_ext
  intro i hi
  rw [o32_nI h0]
  simp only [b_and]
  rw [b_sshr _ (by omega) _ hi, b_sshr _ (by omega) _ hi, b_sshr _ (by omega) _ hi]
  split <;> simp only [b_and] <;> generalize bt (Int32.ofInt 7) i = c <;> cases c <;> simp
theorem sw_in {w m y c : Int} (h1 : mAnd w c = w) (h2 : mAnd y c = y) : mAnd (mOr (mAnd w m) y) c = mOr (mAnd w m) y := by
  have e : mAnd (mOr (mAnd w m) y) c = mOr (mAnd (mAnd w c) m) (mAnd y c) := by
    unfold mAnd mOr
    simp only [Int32.ofInt_toInt]
    congr 1
    apply b_ext
    intro i hi
    simp only [b_and, b_or]
    generalize bt (Int32.ofInt c) i = c1
    generalize bt (Int32.ofInt w) i = c2
    generalize bt (Int32.ofInt y) i = c3
    generalize bt (Int32.ofInt m) i = c4
    revert c1 c2 c3 c4
    decide
  rw [e, h1, h2]
def swW (w f l : Int) : Int := mOr (mAnd w (mXor (mShl 7 (f * 3)) (-1))) (mShl l (f * 3))
theorem swW_bd {w f l : Int} (hw : 0 ≤ w ∧ w < 4096) (hf : 0 ≤ f ∧ f < 4) (hl : 0 ≤ l ∧ l < 8) : 0 ≤ swW w f l ∧ swW w f l < 4096 := by
  have key : ∀ a : Fin 4, ∀ b : Fin 8, mAnd (mShl (b.val : Int) ((a.val : Int) * 3)) 4095 = mShl (b.val : Int) ((a.val : Int) * 3) := by decide +kernel
  have k1 := key ⟨f.toNat, by omega⟩ ⟨l.toNat, by omega⟩
  simp only [Int.toNat_of_nonneg hf.1, Int.toNat_of_nonneg hl.1] at k1
  have k2 : mAnd w 4095 = w := (mAnd_mask (x := w) 12 (by decide)).trans (Int.emod_eq_of_lt hw.1 hw.2)
  have k3 := sw_in (w := w) (m := mXor (mShl 7 (f * 3)) (-1)) (y := mShl l (f * 3)) (c := 4095) k2 k1
  have k4 : mAnd (swW w f l) 4095 = swW w f l % 4096 := mAnd_mask (x := swW w f l) 12 (by decide)
  have k5 : mAnd (swW w f l) 4095 = swW w f l := k3
  omega
theorem swW_dg {w f l g : Int} (hw : 0 ≤ w ∧ w < 4096) (hf : 0 ≤ f ∧ f < 4) (hl : 0 ≤ l ∧ l < 8) (hg : 0 ≤ g ∧ g < 4) : dg (swW w f l) g = if g = f then l else dg w g := by
  have hb := swW_bd hw hf hl
  rw [← dg_shr hb.1 (by omega) hg.1 (by omega)]
  unfold swW
  rw [sw_or (by omega) (by omega), sw_and (by omega) (by omega), dg_shr hw.1 (by omega) hg.1 (by omega)]
  have hd : 0 ≤ dg w g ∧ dg w g < 8 := by unfold dg; omega
  revert hd
  generalize dg w g = d
  intro hd
  have key : ∀ a c : Fin 4, ∀ b e : Fin 8, mOr (mAnd (e.val : Int) (mAnd (mShr (mXor (mShl 7 ((a.val : Int) * 3)) (-1)) ((c.val : Int) * 3)) 7)) (mAnd (mShr (mShl (b.val : Int) ((a.val : Int) * 3)) ((c.val : Int) * 3)) 7) = if (c.val : Int) = (a.val : Int) then (b.val : Int) else (e.val : Int) := by decide +kernel
  have k1 := key ⟨f.toNat, by omega⟩ ⟨g.toNat, by omega⟩ ⟨l.toNat, by omega⟩ ⟨d.toNat, by omega⟩
  simp only [Int.toNat_of_nonneg hf.1, Int.toNat_of_nonneg hl.1, Int.toNat_of_nonneg hg.1, Int.toNat_of_nonneg hd.1] at k1
  exact k1
theorem m_swing (C : CG h σ) {K : Int → mH → Prop} {x1 x2 x3 : Int} (hx : mInR x1) (hx2 : mInR x2) (hx3 : mInR x3) (k : ∀ h2, CG h2 σ → FrM h h2 → K (q_swing σ x1 x2 x3) h2) : OkI M6_swing [mR 25 0, mI x1, mI x2, mI x3] h K := by
  have P := C.1
  have B := C.2.1
  have hp := B.wp
  have hs := B.wf
  have kk := k h C (FrM.rf h)
  unfold q_swing at kk
  have hno : ¬ ((0 ≤ x1 ∧ x1 < gS σ 310) ∧ (0 ≤ x2 ∧ x2 < nf (gP σ)) ∧ 0 ≤ x3 ∧ x3 ≤ 1) → K (-1) h := fun z => by rw [if_neg z] at kk; exact kk
  refine s6_swing (k0_hasRisk B hx (fun a b => ⟨by decide, fun w => absurd w (by decide), fun _ => k3_hasFactor P hx2 (fun c d => ⟨by decide, fun w => absurd w (by decide), fun _ => k_within hx3 (by decide) (by decide) (fun e g => ⟨by decide, fun _ => ⟨?_, s6_slotShift ?_⟩, fun w => absurd w (by decide)⟩) (fun z => ⟨by decide, fun w => absurd rfl w, fun _ => hno (fun w => z w.2.2)⟩)⟩) (fun z => ⟨by decide, fun _ => hno (fun w => z w.2.1), fun w => absurd rfl w⟩)⟩) (fun z => ⟨by decide, fun _ => hno (fun w => z w.1), fun w => absurd rfl w⟩))
  · have := hs.1.1; omega
  rw [if_pos ⟨⟨a, b⟩, ⟨c, d⟩, e, g⟩] at kk
  have hm := hs.1.1
  have hn := hp.1.1
  have hl := hp.2 x2 c d
  have hpk := pkL_bd hp hs a b
  have hrk := B.rk a b
  have hrw := hs.2.1 x1 a b
  rw [hrk.2.2.2]
  have hrw1 : 1 ≤ gS σ (7 * x1 + 0) ∧ gS σ (7 * x1 + 0) ≤ 99 := hrw.1
  have hlv : h 9 0 x2 = lv (gP σ) x2 := P.lv c d
  have key := upI (P := fun l => ∀ u v, mInL v → (l = 0 ∨ (u = (fl (swG (gP σ) (gS σ) x1 x2 x3) (-1, 0) l).1 ∧ v = (fl (swG (gP σ) (gS σ) x1 x2 x3) (-1, 0) l).2 ∧ 0 ≤ u)) → A6_swing_63 K x1 x2 x3 (mAnd (pkL (gS σ) x1) (mXor (mShl 7 (x2 * 3)) (-1))) u v l h) (n := lv (gP σ) x2) (fun u v hv hu => ?_) (fun l h5 h6 ih u v hv hu => ?_) 0 (by omega) (by omega) 0 0 (by decide) (Or.inl rfl)
  · exact key
  · refine s6_swing_63 ⟨by omega, ?_⟩
    rw [hlv]
    refine ⟨by omega, fun _ => ?_, fun z => absurd (Int.le_refl _) z⟩
    rcases hu with w | w
    · omega
    · rw [w.1]; exact kk
  · rw [fl_s _ _ h5] at ih
    have hv2 := swV_bd hp hs a b c d h5 h6
    have ev : prm (gS σ) (nf (gP σ)) (gS σ (7 * x1 + 0)) (dg (swW (pkL (gS σ) x1) x2 l)) = swV (gP σ) (gS σ) x1 x2 l := by
      have hw := lev_wf hp hs a b c d h5 h6
      unfold swV pr
      rw [up_ne (j := 7 * x1 + 0) (by omega), prm_lev (g := fun f => up (gS σ) (7 * x1 + 3 + x2) l (7 * x1 + 3 + f)) (fun f i j => ?_)]
      · refine (prm_congr (up_ne (by omega)) (up_ne (by omega)) (up_ne (by omega)) (fun f i j => up_ne ?_)).symm
        have hz := ((hw.2.1 x1 a (by rw [up_ne (by omega)]; exact b)).2.2.2 f i (by omega)).1
        omega
      · rw [swW_dg hpk (by omega) (by omega) (by omega)]
        by_cases w : f = x2
        · rw [if_pos w, w, up_same]
        · rw [if_neg w, up_ne (by omega), pkL_dg hp hs a b i (by omega)]
    refine s6_swing_63 ⟨by omega, ?_⟩
    rw [hlv]
    refine ⟨by omega, fun z => by omega, fun _ => ⟨by omega, s6_slotShift ?_⟩⟩
    rw [hrk.1]
    refine k2_premiumFor P B (by omega) (x := swW (pkL (gS σ) x1) x2 l) (by have := swW_bd (w := pkL (gS σ) x1) (f := x2) (l := l) hpk (by omega) (by omega); omega) (fun f i j => ?_) ?_
    · rw [swW_dg hpk (by omega) (by omega) (by omega)]
      split
      · rename_i w; rw [w]; exact h6
      · rw [pkL_dg hp hs a b i (by omega)]
        exact (hrw.2.2.2 f i (by omega)).2.1 j
    · rw [ev]
      have yes : swG (gP σ) (gS σ) x1 x2 x3 l (fl (swG (gP σ) (gS σ) x1 x2 x3) (-1, 0) l) = (l, swV (gP σ) (gS σ) x1 x2 l) → A6_swing_63 K x1 x2 x3 (mAnd (pkL (gS σ) x1) (mXor (mShl 7 (x2 * 3)) (-1))) l (swV (gP σ) (gS σ) x1 x2 l) (l + 1) h := fun w => ih _ _ (by constructor <;> omega) (Or.inr ⟨by rw [w], by rw [w], h5⟩)
      have no : ¬ l = 0 → swG (gP σ) (gS σ) x1 x2 x3 l (fl (swG (gP σ) (gS σ) x1 x2 x3) (-1, 0) l) = fl (swG (gP σ) (gS σ) x1 x2 x3) (-1, 0) l → A6_swing_63 K x1 x2 x3 (mAnd (pkL (gS σ) x1) (mXor (mShl 7 (x2 * 3)) (-1))) u v (l + 1) h := fun w w2 => by
        rcases hu with y | y
        · exact absurd y w
        · exact ih _ _ hv (Or.inr ⟨by rw [w2]; exact y.1, by rw [w2]; exact y.2.1, y.2.2⟩)
      refine ⟨by omega, fun z => yes ?_, fun z => ?_⟩
      · subst z
        exact if_pos (Or.inl rfl)
      have y : u = (fl (swG (gP σ) (gS σ) x1 x2 x3) (-1, 0) l).1 ∧ v = (fl (swG (gP σ) (gS σ) x1 x2 x3) (-1, 0) l).2 ∧ 0 ≤ u := hu.resolve_left z
      have no2 := no z
      clear no ih hu
      revert y yes no2
      generalize fl (swG (gP σ) (gS σ) x1 x2 x3) (-1, 0) l = A
      intro yes y no2
      have y1 : ¬ A.1 = -1 := by have := y.1; have := y.2.2; omega
      refine ⟨hx3, fun z2 => ⟨⟨by constructor <;> omega, hv⟩, fun z3 => no2 (if_neg (fun w => ?_)), fun z3 => yes (if_pos (Or.inr ?_))⟩, fun z2 => ⟨⟨by constructor <;> omega, hv⟩, fun z3 => no2 (if_neg (fun w => ?_)), fun z3 => yes (if_pos (Or.inr ?_))⟩⟩
      · rw [if_neg z2] at w
        rcases w with w | w
        · exact y1 w
        · rw [← y.2.1] at w; omega
      · rw [if_neg z2, ← y.2.1]; omega
      · rw [if_pos z2] at w
        rcases w with w | w
        · exact y1 w
        · rw [← y.2.1] at w; omega
      · rw [if_pos z2, ← y.2.1]; omega
end OFF8
