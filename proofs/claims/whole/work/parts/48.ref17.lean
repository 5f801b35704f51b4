/-! the reference: quote, kinds, chance, names, faults, counts, the tape -/
section REF17
variable {h : mH} {σ : Sg}
def okB (p : Pn) (x f : Int) : Bool := if f < nf p then decide (dg x f < lv p f) else decide (dg x f = 0)
theorem okB_iff (p : Pn) (x f : Int) : okB p x f = true ↔ okd p x f := by
  unfold okB okd
  by_cases c : f < nf p
  · rw [if_pos c]
    exact ⟨fun z => ⟨fun _ => of_decide_eq_true z, fun w => by omega⟩, fun z => decide_eq_true (z.1 c)⟩
  · rw [if_neg c]
    exact ⟨fun z => ⟨fun w => by omega, fun _ => of_decide_eq_true z⟩, fun z => decide_eq_true (z.2 (by omega))⟩
/-- whether a number names a level of each factor and nothing beyond -/
def vldB (p : Pn) (x : Int) : Bool := decide (0 ≤ x) && (decide (x / 4096 = 0) && (okB p x 0 && (okB p x 1 && (okB p x 2 && okB p x 3))))
theorem vldB_iff (p : Pn) (x : Int) : vldB p x = true ↔ vld p x := by
  unfold vldB vld
  rw [Bool.and_eq_true, Bool.and_eq_true, Bool.and_eq_true, Bool.and_eq_true, Bool.and_eq_true, okB_iff, okB_iff, okB_iff, okB_iff, decide_eq_true_eq, decide_eq_true_eq]
  constructor
  · rintro ⟨a, b, c, d, e, f⟩
    refine ⟨a, fun g h0 h1 => ?_, b⟩
    have : g = 0 ∨ g = 1 ∨ g = 2 ∨ g = 3 := by omega
    rcases this with rfl | rfl | rfl | rfl
    · exact c
    · exact d
    · exact e
    · exact f
  · rintro ⟨a, b, c⟩
    exact ⟨a, c, b 0 (by decide) (by decide), b 1 (by decide) (by decide), b 2 (by decide) (by decide), b 3 (by decide) (by decide)⟩
theorem vldB_no {p : Pn} {x : Int} (h : ¬ vld p x) : vldB p x = false := by
  cases e : vldB p x
  · rfl
  · exact absurd ((vldB_iff p x).mp e) h
theorem RG.l45 (R : RG h σ) (g : Int → Int) : RG (rs h 45 0 g) σ := R.fr (fun r hr => rs_r (by omega)) (fun k _ => by rw [rs_r (by decide)])
def q_quote (σ : Sg) (e x : Int) : Int := if (1 ≤ e ∧ e ≤ 99) ∧ vldB (gP σ) x = true then prm (gS σ) (nf (gP σ)) e (dg x) else -1
theorem r_quote (R : RG h σ) {K : Int → mH → Prop} {x1 x2 : Int} (hx : mInR x1) (hx2 : mInR x2) (k : ∀ h2, RG h2 σ → FrC h h2 → K (q_quote σ x1 x2) h2) : OkJ M7_quote [mR 30 0, mI x1, mI x2] h K := by
  refine s7_quote ?_
  rintro _ rfl
  have Q1 : Rf _ (gP σ) (gS σ) := (R.th2 0).1
  have kk := k _ (R.th2 0) (frC_th2 h 0)
  have k2 := fun g => k _ ((R.th2 0).l45 g) ((frC_th2 h 0).tr (FrC.rs (by decide)))
  unfold q_quote at kk k2
  refine ⟨hx, fun z => ?_, fun z => ⟨hx, fun z2 => ?_, fun z2 => c7_laysLevels Q1 hx2 (fun hv g hg => ⟨by decide, fun w => absurd w (by decide), fun _ => ?_⟩) (fun hv g => ⟨by decide, fun _ => ?_, fun w => absurd rfl w⟩)⟩⟩
  · rw [if_neg (by omega)] at kk; exact kk
  · rw [if_neg (by omega)] at kk; exact kk
  · have k3 := k2 g
    rw [if_pos ⟨by omega, (vldB_iff _ _).mpr hv⟩] at k3
    have h4 := Q1.n4
    refine c7_premiumBy (g := dg x2) ((R.th2 0).l45 g).1 (by omega) (fun f a b => ⟨(dg_bd x2 f).1, (hv.2.1 f a (by omega)).1 b⟩) (Or.inr ⟨rfl, fun f a b => ?_⟩) k3
    rw [rs_same, hg f a (by omega)]
  · have k3 := k2 g
    rw [if_neg (fun w => by have := vldB_no hv; rw [this] at w; exact absurd w.2 (by decide))] at k3
    exact k3
def q_kinds (σ : Sg) (w : Int) : Int := if 0 ≤ w ∧ w ≤ 1 then (if w = 0 then kn (gP σ) else knF (gP σ) (gS σ)) else -1
theorem r_kinds (R : RG h σ) {K : Int → mH → Prop} {x1 : Int} (hx : mInR x1) (k : ∀ h2, RG h2 σ → FrC h h2 → K (q_kinds σ x1) h2) : OkI M7_kinds [mR 30 0, mI x1] h K := by
  refine s7_kinds ?_
  rintro _ rfl
  have Q1 : Rf _ (gP σ) (gS σ) := (R.th2 0).1
  have kk := k _ (R.th2 0) (frC_th2 h 0)
  unfold q_kinds at kk
  refine ⟨hx, fun z => ?_, fun z => ⟨hx, fun z2 => c7_kinds Q1 (by omega) ?_, fun z2 => ?_⟩⟩
  · rw [if_neg (by omega)] at kk; exact kk
  · rw [if_pos (by omega)] at kk; exact kk
  · rw [if_neg (by omega)] at kk; exact kk
def q_chance (σ : Sg) (sd0 n m kk w : Int) : Int := if -1 ≤ sd0 ∧ (1 ≤ n ∧ n ≤ 60) ∧ (0 ≤ m ∧ m ≤ 99999) ∧ (0 ≤ kk ∧ kk ≤ 20) ∧ (0 ≤ w ∧ w ≤ 2) ∧ ¬ gS σ 310 = 0 then chV (gP σ) (gS σ) (if sd0 = -1 then sd (gP σ) else sd0) n m kk w else -1
theorem r_chance (R : RG h σ) {K : Int → mH → Prop} {x1 x2 x3 x4 x5 : Int} (hx1 : mInR x1) (hx2 : mInR x2) (hx3 : mInR x3) (hx4 : mInR x4) (hx5 : mInR x5) (k : ∀ h2, RG h2 σ → FrC h h2 → K (q_chance σ x1 x2 x3 x4 x5) h2) : OkJ M7_chance [mR 30 0, mI x1, mI x2, mI x3, mI x4, mI x5] h K := by
  refine s7_chance ?_
  rintro _ rfl
  have R1 := R.th2 0
  have Q1 : Rf _ (gP σ) (gS σ) := R1.1
  have kk := k _ R1 (frC_th2 h 0)
  have hm := Q1.m40
  have no : ¬ (-1 ≤ x1 ∧ (1 ≤ x2 ∧ x2 ≤ 60) ∧ (0 ≤ x3 ∧ x3 ≤ 99999) ∧ (0 ≤ x4 ∧ x4 ≤ 20) ∧ (0 ≤ x5 ∧ x5 ≤ 2) ∧ ¬ gS σ 310 = 0) → K (-1) (mSet h 30 0 0 0) := by
    intro z
    unfold q_chance at kk
    rw [if_neg z] at kk
    exact kk
  refine ⟨hx1, fun z => no (by omega), fun z1 => ⟨hx2, fun z => no (by omega), fun z2 => ⟨hx2, fun z => no (by omega), fun z3 => ⟨hx3, fun z => no (by omega), fun z4 => ⟨hx3, fun z => no (by omega), fun z5 => ⟨hx4, fun z => no (by omega), fun z6 => ⟨hx4, fun z => no (by omega), fun z7 => ⟨hx5, fun z => no (by omega), fun z8 => ⟨hx5, fun z => no (by omega), fun z9 => c7_many Q1 ⟨by omega, fun z10 => ?_, fun z => no (by omega)⟩⟩⟩⟩⟩⟩⟩⟩⟩⟩
  generalize hH : mSet h 30 0 0 0 = H at *
  have FH : FrC h H := hH ▸ frC_th2 h 0
  have hv : -1 ≤ x1 ∧ (1 ≤ x2 ∧ x2 ≤ 60) ∧ (0 ≤ x3 ∧ x3 ≤ 99999) ∧ (0 ≤ x4 ∧ x4 ≤ 20) ∧ (0 ≤ x5 ∧ x5 ≤ 2) ∧ ¬ gS σ 310 = 0 := by omega
  have R30 : ∀ v, RG (rs H 30 0 (up (H 30 0) 29 v)) σ := fun v => R1.fr (fun r hr => rs_r (by omega)) (fun j hj => by rw [rs_same, up_ne (by omega)])
  have fin : ∀ v, v = (if x1 = -1 then sd (gP σ) else x1) → OkV M7_goesAside [mR 30 0] (rs H 30 0 (up (H 30 0) 29 v)) (fun h4 => A7_chance_91 K x1 x2 x3 x4 x5 0 h4) := by
    intro v ev
    refine c7_goesAside (R30 v).1.es ?_
    rw [rs_comm (by decide)]
    refine c7_chance (sd := v) Q1 (up_same _ _ _) (by omega) (by omega) (by omega) (by omega) (by omega) (fun l => ?_)
    rw [up_up]
    have k3 := k (rs (rs H 42 0 (gS σ)) 30 0 (up (H 30 0) 29 l)) ((R1.as (gS σ)).fr (fun r hr => rs_r (by omega)) (fun j hj => by rw [rs_same, up_ne (by omega), rs_r (by decide)])) ((FH.tr (frC_42 _ _)).tr (FrC.rs (by decide)))
    unfold q_chance at k3
    rw [if_pos hv, ← ev] at k3
    exact k3
  refine ⟨hx1, fun z => ?_, fun z => ?_⟩
  · rintro _ rfl
    rw [mSet_rs]
    exact fin x1 (by rw [if_neg z])
  · rintro _ rfl
    rw [mSet_rs, Q1.1.2.2.1]
    exact fin _ (by rw [if_pos z])
def q_named (σ : Sg) (x : Int) : Int := if ls (fun f => decide (gN σ f = x)) (nf (gP σ)) = -2 then -1 else ls (fun f => decide (gN σ f = x)) (nf (gP σ))
theorem c7_named {K : Int → mH → Prop} {x n : Int} {nm : Int → Int} (hx : mInR x) (hn : 0 ≤ n ∧ n ≤ 4) (e : ∀ f, 0 ≤ f → f < n → h 34 0 f = nm f ∧ mInR (nm f)) (k : K (if ls (fun f => decide (nm f = x)) n = -2 then -1 else ls (fun f => decide (nm f = x)) n) h) : OkI M7_namedAt [mR 30 0, mI 0, mI n, mI x] h K := by
  refine s7_namedAt (upI (P := fun f => (∀ j, 0 ≤ j → j < f → decide (nm j = x) = false) → A7_namedAt_3 K 0 n x f h) (n := n) (fun hj => ?_) (fun f h5 h6 ih hj => ?_) 0 (by omega) (by omega) (fun j a b => by omega))
  · rw [ls_no hj, if_pos rfl] at k
    exact s7_namedAt_3 ⟨by omega, fun _ => k, fun z => absurd (Int.le_refl _) z⟩
  · have he := e f h5 h6
    refine s7_namedAt_3 ⟨by omega, fun z => by omega, fun _ => ⟨by omega, ?_⟩⟩
    rw [show 0 + f = f by omega, he.1]
    refine ⟨⟨he.2, hx⟩, fun z => ih (fun j a b => ?_), fun z => ?_⟩
    · by_cases d : j = f
      · rw [d]; exact decide_eq_false z
      · exact hj j a (by omega)
    · rw [ls_yes h5 h6 (decide_eq_true z) hj, if_neg (by omega)] at k
      exact k
theorem r_named (R : RG h σ) {K : Int → mH → Prop} {x1 : Int} (hx : mInR x1) (k : ∀ h2, RG h2 σ → FrC h h2 → K (q_named σ x1) h2) : OkI M7_named [mR 30 0, mI x1] h K := by
  refine s7_named ?_
  rintro _ rfl
  have R1 := R.th2 0
  have Q1 : Rf _ (gP σ) (gS σ) := R1.1
  exact c7_factors Q1 (c7_named (nm := gN σ) hx Q1.n4 R1.2.1 (k _ R1 (frC_th2 h 0)))
def q_fault (σ : Sg) (w : Int) : Int := if w = 0 then (gF σ).1 else if w = 1 then (gF σ).2 else -1
theorem r_fault (R : RG h σ) {K : Int → mH → Prop} {x1 : Int} (hx : mInR x1) (k : ∀ h2, RG h2 σ → FrC h h2 → K (q_fault σ x1) h2) : OkI M7_fault [mR 30 0, mI x1] h K := by
  refine s7_fault ?_
  rintro _ rfl
  have R1 := R.th2 0
  have kk := k _ R1 (frC_th2 h 0)
  unfold q_fault at kk
  obtain ⟨f1, f2, -, -⟩ := R1.2.2.2.2.2
  rw [f1, f2]
  refine ⟨hx, fun z => ⟨hx, fun z2 => ?_, fun z2 => ?_⟩, fun z => ?_⟩
  · rw [if_neg z, if_neg z2] at kk; exact kk
  · rw [if_neg z, if_pos z2] at kk; exact kk
  · rw [if_pos z] at kk; exact kk
def q_count (σ : Sg) (w : Int) : Int := if w = 0 then nf (gP σ) else if w = 1 then gS σ 310 else if w = 2 then gS σ 308 else if w = 3 then bd (gP σ) else if w = 4 then gS σ 309 else if w = 5 then cc (gP σ) (gS σ) 0 else if w = 6 then cc (gP σ) (gS σ) 1 else if w = 7 then (gU σ).1 else if w = 8 then (gT σ).1 else if w = 9 then gS σ 311 else if w = 10 then gS σ 312 else if w = 11 then gS σ 313 else -1
theorem r_count (R : RG h σ) {K : Int → mH → Prop} {x1 : Int} (hx : mInR x1) (k : ∀ h2, RG h2 σ → FrC h h2 → K (q_count σ x1) h2) : OkI M7_count [mR 30 0, mI x1] h K := by
  refine s7_count ?_
  rintro _ rfl
  have R1 := R.th2 0
  have Q1 : Rf _ (gP σ) (gS σ) := R1.1
  have kk := k _ R1 (frC_th2 h 0)
  unfold q_count at kk
  rw [Q1.es, Q1.1.2.1, R1.2.2.2.1.1, R1.2.2.2.2.1.1]
  refine ⟨hx, fun w => c7_factors Q1 ?_, fun w => c7_many Q1 ?_, fun w => ?_, fun w => ?_, fun w => ?_, fun w => c7_classes Q1 (Or.inl rfl) ?_, fun w => c7_classes Q1 (Or.inr rfl) ?_, fun w => ?_, fun w => ?_, fun w => ?_, fun w => ?_, fun w => ?_, fun w => ?_⟩
  · rw [if_pos w] at kk; exact kk
  · rw [if_neg (by omega), if_pos w] at kk; exact kk
  · rw [if_neg (by omega), if_neg (by omega), if_pos w] at kk; exact kk
  · rw [if_neg (by omega), if_neg (by omega), if_neg (by omega), if_pos w] at kk; exact kk
  · rw [if_neg (by omega), if_neg (by omega), if_neg (by omega), if_neg (by omega), if_pos w] at kk; exact kk
  · rw [if_neg (by omega), if_neg (by omega), if_neg (by omega), if_neg (by omega), if_neg (by omega), if_pos w] at kk; exact kk
  · rw [if_neg (by omega), if_neg (by omega), if_neg (by omega), if_neg (by omega), if_neg (by omega), if_neg (by omega), if_pos w] at kk; exact kk
  · rw [if_neg (by omega), if_neg (by omega), if_neg (by omega), if_neg (by omega), if_neg (by omega), if_neg (by omega), if_neg (by omega), if_pos w] at kk; exact kk
  · rw [if_neg (by omega), if_neg (by omega), if_neg (by omega), if_neg (by omega), if_neg (by omega), if_neg (by omega), if_neg (by omega), if_neg (by omega), if_pos w] at kk; exact kk
  · rw [if_neg (by omega), if_neg (by omega), if_neg (by omega), if_neg (by omega), if_neg (by omega), if_neg (by omega), if_neg (by omega), if_neg (by omega), if_neg (by omega), if_pos w] at kk; exact kk
  · rw [if_neg (by omega), if_neg (by omega), if_neg (by omega), if_neg (by omega), if_neg (by omega), if_neg (by omega), if_neg (by omega), if_neg (by omega), if_neg (by omega), if_neg (by omega), if_pos w] at kk; exact kk
  · rw [if_neg (by omega), if_neg (by omega), if_neg (by omega), if_neg (by omega), if_neg (by omega), if_neg (by omega), if_neg (by omega), if_neg (by omega), if_neg (by omega), if_neg (by omega), if_neg (by omega), if_pos w] at kk; exact kk
  · rw [if_neg (by omega), if_neg (by omega), if_neg (by omega), if_neg (by omega), if_neg (by omega), if_neg (by omega), if_neg (by omega), if_neg (by omega), if_neg (by omega), if_neg (by omega), if_neg (by omega), if_neg (by omega)] at kk; exact kk
/-- the bytes of five numbers -/
def fdA (a b c d e i : Int) : Int := if 16 ≤ i then e else if 12 ≤ i then d else if 8 ≤ i then c else if 4 ≤ i then b else a
def fdB (a b c d e i : Int) : Int := mAnd (mShr (fdA a b c d e i) (24 - 8 * (i % 4))) 255
theorem fdB_bd (a b c d e i : Int) : 0 ≤ fdB a b c d e i ∧ fdB a b c d e i ≤ 255 := by
  unfold fdB
  have := mAnd_mask (x := mShr (fdA a b c d e i) (24 - 8 * (i % 4))) 8 (by decide)
  rw [show (2 : Int) ^ 8 - 1 = 255 from rfl, show (2 : Int) ^ 8 = 256 from rfl] at this
  omega
def fdS (σ : Sg) (a b c d e : Int) : Sg := (gP σ, gN σ, gS σ, gI σ, gU σ, ((gT σ).1 + 20, fun j => if j < (gT σ).1 then (gT σ).2 j else fdB a b c d e (j - (gT σ).1)), gF σ)
theorem r_feed (R : RG h σ) {K : Int → mH → Prop} {x1 x2 x3 x4 x5 : Int} (k1 : (gT σ).1 ≤ 880 → ∀ h2, RG h2 (fdS σ x1 x2 x3 x4 x5) → FrC h h2 → K ((gT σ).1 + 20) h2) (k0 : ¬ (gT σ).1 ≤ 880 → ∀ h2, RG h2 σ → FrC h h2 → K (-1) h2) : OkI M7_feed [mR 30 0, mI x1, mI x2, mI x3, mI x4, mI x5] h K := by
  refine s7_feed ?_
  rintro _ rfl
  have R1 := R.th2 0
  obtain ⟨r1, r2, r3, r4, ⟨t1, t2, t3⟩, r6⟩ := id R1
  rw [t1]
  refine ⟨by omega, fun z => ?_, fun z => k0 z _ R1 (frC_th2 h 0)⟩
  generalize hH : mSet h 30 0 0 0 = H at *
  have FH : FrC h H := hH ▸ frC_th2 h 0
  generalize hG : (fun (q : Int) (j : Int) => if (gT σ).1 ≤ j ∧ j < (gT σ).1 + q then fdB x1 x2 x3 x4 x5 (j - (gT σ).1) else H 31 0 j) = G
  have key := upI (P := fun q => A7_feed_20 K x1 x2 x3 x4 x5 q (rs H 31 0 (G q))) (n := 20) ?_ (fun q h5 h6 ih => ?_) 0 (by omega) (by omega)
  · have e : G 0 = H 31 0 := by
      rw [← hG]
      funext j
      dsimp only
      rw [if_neg (by omega)]
    rw [e, rs_self] at key
    exact key
  · refine s7_feed_20 ⟨by decide, fun _ => ?_, fun w => absurd (Int.le_refl _) w⟩
    rintro _ rfl
    have e30 : rs H 31 0 (G 20) 30 0 = H 30 0 := rs_r (by decide)
    rw [mSet_rs, e30, rs_same, up_same, t1]
    refine k1 z _ ?_ ((FH.tr (FrC.rs (by decide))).tr (FrC.rs (by decide)))
    refine ⟨r1.fr (fun r hr => by rw [rs_r (by omega), rs_r (by omega)]), fun f a b => by rw [rs_r (by decide), rs_r (by decide)]; exact r2 f a b, ?_, ?_, ?_, ?_⟩
    · unfold RI at r3 ⊢
      rw [rs_same, up_ne (by decide), rs_r (by decide), rs_r (by decide)]; exact r3
    · unfold RU at r4 ⊢
      rw [rs_same, up_ne (by decide), rs_r (by decide), rs_r (by decide)]; exact r4
    · refine ⟨by rw [rs_same, up_same]; rfl, by show 0 ≤ (gT σ).1 + 20 ∧ (gT σ).1 + 20 ≤ 900; omega, fun j a b => ?_⟩
      have b2 : j < (gT σ).1 + 20 := b
      rw [rs_r (by decide), rs_same, ← hG]
      show (if (gT σ).1 ≤ j ∧ j < (gT σ).1 + 20 then fdB x1 x2 x3 x4 x5 (j - (gT σ).1) else H 31 0 j) = (if j < (gT σ).1 then (gT σ).2 j else fdB x1 x2 x3 x4 x5 (j - (gT σ).1)) ∧ 0 ≤ (if j < (gT σ).1 then (gT σ).2 j else fdB x1 x2 x3 x4 x5 (j - (gT σ).1)) ∧ (if j < (gT σ).1 then (gT σ).2 j else fdB x1 x2 x3 x4 x5 (j - (gT σ).1)) ≤ 255
      by_cases c : j < (gT σ).1
      · rw [if_neg (by omega), if_pos c]
        exact t3 j a c
      · rw [if_pos (by omega), if_neg c]
        exact ⟨rfl, fdB_bd _ _ _ _ _ _⟩
    · unfold RF at r6 ⊢
      rw [rs_same, up_ne (by decide), up_ne (by decide)]; exact r6
  · have nxt : A7_feed_73 K x1 x2 x3 x4 x5 q (fdA x1 x2 x3 x4 x5 q) (rs H 31 0 (G q)) := by
      refine s7_feed_73 ?_
      rw [rs_r (by decide), t1]
      refine ⟨by omega, by omega, ?_⟩
      rintro _ rfl
      rw [mSet_rs, rs_same, rs_rs, Int.tmod_eq_emod_of_nonneg h5]
      have e : up (G q) ((gT σ).1 + q) (mAnd (mShr (fdA x1 x2 x3 x4 x5 q) (24 - 8 * (q % 4))) 255) = G (q + 1) := by
        rw [← hG]
        funext j
        unfold up
        dsimp only
        by_cases c : j = (gT σ).1 + q
        · rw [if_pos c, if_pos (by omega), c, show (gT σ).1 + q - (gT σ).1 = q by omega]
          rfl
        · rw [if_neg c]
          by_cases d : (gT σ).1 ≤ j ∧ j < (gT σ).1 + q
          · rw [if_pos d, if_pos (by omega)]
          · rw [if_neg d, if_neg (by omega)]
      rw [e]
      exact ih
    unfold fdA at nxt
    refine s7_feed_20 ⟨by omega, fun w => by omega, fun _ => ⟨by omega, fun w4 => ⟨by omega, fun w8 => ⟨by omega, fun w12 => ⟨by omega, fun w16 => ?_, fun w16 => ?_⟩, fun w12 => ?_⟩, fun w8 => ?_⟩, fun w4 => ?_⟩⟩
    · rw [if_pos w16] at nxt; exact nxt
    · rw [if_neg w16, if_pos w12] at nxt; exact nxt
    · rw [if_neg (by omega), if_neg w12, if_pos w8] at nxt; exact nxt
    · rw [if_neg (by omega), if_neg (by omega), if_neg w8, if_pos w4] at nxt; exact nxt
    · rw [if_neg (by omega), if_neg (by omega), if_neg (by omega), if_neg w4] at nxt; exact nxt
end REF17
