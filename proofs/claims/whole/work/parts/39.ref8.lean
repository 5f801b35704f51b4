/-! the reference: calls that change the row -/
section REF8
variable {h : mH} {σ : Sg}
theorem frC_th2 (h : mH) (v : Int) : FrC h (mSet h 30 0 0 v) := by rw [mSet_rs]; exact frC_th h _
theorem RG.th2 (R : RG h σ) (v : Int) : RG (mSet h 30 0 0 v) σ := by rw [mSet_rs]; exact R.th v
theorem c7_goes {p : Pn} {s : Int → Int} (R : Rf h p s) {K : mH → Prop} {x1 : Int} (h0 : 0 ≤ x1) (h1 : x1 < s 310) (k : K (rs h 41 0 (goS s x1))) : OkV M7_goes [mR 30 0, mI x1] h K := by
  have hm := R.m40
  refine s7_goes ?_
  rintro _ rfl
  rw [mSet_rs, R.es]
  -- the first loop
  have lp2 : ∀ (g : Int → Int), g 310 = s 310 - 1 → (∀ h2, h2 = rs h 41 0 (fun j => if 7 * (s 310 - 1) ≤ j ∧ j < 7 * (s 310 - 1) + 7 then 0 else g j) → K h2) → A7_goes_51 K x1 0 (rs h 41 0 g) := by
    intro g hg kk
    have key := upI (P := fun q => A7_goes_51 K x1 q (rs h 41 0 (fun j => if 7 * (s 310 - 1) ≤ j ∧ j < 7 * (s 310 - 1) + q then 0 else g j))) (n := 7) ?_ (fun q h5 h6 ih => ?_) 0 (by omega) (by omega)
    · have e : (fun j => if 7 * (s 310 - 1) ≤ j ∧ j < 7 * (s 310 - 1) + 0 then 0 else g j) = g := by
        funext j
        rw [if_neg (by omega)]
      rw [e] at key
      exact key
    · exact s7_goes_51 ⟨by decide, fun _ => kk _ rfl, fun z => absurd (Int.le_refl _) z⟩
    · refine s7_goes_51 ⟨by omega, fun z => by omega, fun _ => s7_many ?_⟩
      rw [rs_same, if_neg (by omega), hg]
      refine ⟨by omega, ?_⟩
      rintro _ rfl
      rw [mSet_rs, rs_same, rs_rs]
      have e : up (fun j => if 7 * (s 310 - 1) ≤ j ∧ j < 7 * (s 310 - 1) + q then 0 else g j) (7 * (s 310 - 1) + q) 0 = (fun j => if 7 * (s 310 - 1) ≤ j ∧ j < 7 * (s 310 - 1) + (q + 1) then 0 else g j) := by
        funext j
        unfold up
        by_cases c : j = 7 * (s 310 - 1) + q
        · rw [if_pos c, if_pos (by omega)]
        · rw [if_neg c]
          dsimp only
          by_cases d : 7 * (s 310 - 1) ≤ j ∧ j < 7 * (s 310 - 1) + q
          · rw [if_pos d, if_pos (by omega)]
          · rw [if_neg d, if_neg (by omega)]
      rw [e]
      exact ih
  have key := upI (P := fun q => 7 * x1 ≤ q → A7_goes_17 K x1 q (rs h 41 0 (fun j => if j = 310 then s 310 - 1 else if 7 * x1 ≤ j ∧ j < q then s (j + 7) else s j))) (n := 7 * (s 310 - 1)) (fun hq => ?_) (fun q h5 h6 ih hq => ?_) (7 * x1) (by omega) (by omega) (Int.le_refl _)
  · have e : (fun j => if j = 310 then s 310 - 1 else if 7 * x1 ≤ j ∧ j < 7 * x1 then s (j + 7) else s j) = up s 310 (s 310 - 1) := by
      funext j
      unfold up
      by_cases c : j = 310
      · rw [if_pos c, if_pos c]
      · rw [if_neg c, if_neg c, if_neg (by omega)]
    rw [e] at key
    exact key
  · refine s7_goes_17 (s7_many ?_)
    rw [rs_same, if_pos rfl]
    refine ⟨by omega, fun _ => lp2 _ (if_pos rfl) ?_, fun z => absurd (Int.le_refl _) z⟩
    rintro _ rfl
    have e : (fun j => if 7 * (s 310 - 1) ≤ j ∧ j < 7 * (s 310 - 1) + 7 then 0 else if j = 310 then s 310 - 1 else if 7 * x1 ≤ j ∧ j < 7 * (s 310 - 1) then s (j + 7) else s j) = goS s x1 := by
      funext j
      unfold goS
      by_cases c : j = 310
      · rw [if_neg (by omega), if_pos c, if_pos c]
      · rw [if_neg (c := j = 310) c, if_neg (c := j = 310) c]
        by_cases d : 7 * (s 310 - 1) ≤ j ∧ j < 7 * (s 310 - 1) + 7
        · rw [if_pos d, if_neg (by omega), if_pos (by omega)]
        · rw [if_neg d]
          by_cases g : 7 * x1 ≤ j ∧ j < 7 * (s 310 - 1)
          · rw [if_pos g, if_pos g]
          · rw [if_neg g, if_neg g, if_neg (by omega)]
    rw [e]
    exact k
  · refine s7_goes_17 (s7_many ?_)
    rw [rs_same, if_pos rfl]
    refine ⟨by omega, fun z => by omega, fun _ => ⟨by omega, by omega, ?_⟩⟩
    rintro _ rfl
    rw [mSet_rs, rs_same, rs_rs, if_neg (by omega), if_neg (by omega)]
    have e : up (fun j => if j = 310 then s 310 - 1 else if 7 * x1 ≤ j ∧ j < q then s (j + 7) else s j) q (s (q + 7)) = (fun j => if j = 310 then s 310 - 1 else if 7 * x1 ≤ j ∧ j < q + 1 then s (j + 7) else s j) := by
      funext j
      unfold up
      by_cases c : j = q
      · rw [if_pos c, if_neg (by omega), if_pos (by omega), c]
      · rw [if_neg c]
        dsimp only
        by_cases d : j = 310
        · rw [if_pos d, if_pos d]
        · rw [if_neg d, if_neg d]
          by_cases g : 7 * x1 ≤ j ∧ j < q
          · rw [if_pos g, if_pos (by omega)]
          · rw [if_neg g, if_neg (by omega)]
    rw [e]
    exact ih (by omega)
theorem c7_joins {p : Pn} {s : Int → Int} (R : Rf h p s) {K : mH → Prop} {x1 x2 : Int} (h0 : 0 ≤ x1) (h1 : x1 < nf p) (h2 : 0 ≤ x2) (h3 : x2 + 1 < lv p x1) (k : K (rs h 41 0 (joS s x1 x2))) : OkV M7_joins [mR 30 0, mI x1, mI x2] h K := by
  have h4 := R.n4
  have hb := R.pf h0 h1
  unfold joS at k
  refine s7_joins (c7_relativityOf R.es (by omega) (by omega) ⟨by omega, by omega, ?_⟩)
  rintro _ rfl
  rw [mSet_rs, R.es]
  have hx := joX_jb (s := s) (f := x1) (l := x2) (k := x2) (by omega) (by omega)
  rw [decide_eq_true rfl, Bool.xor_true] at hx
  refine c7_isJoined (s := joX s x1 x2) (rs_same _ _ _ _) (by omega) (by omega) (fun _ z => ⟨by decide, fun w => absurd w (by decide), fun _ => ?_⟩) (fun z => ⟨by decide, fun _ => ?_, fun w => absurd rfl w⟩)
  · rw [hx] at z
    have z2 : jb (s (304 + x1)) x2 = false := by simpa using z
    rw [z2] at k
    simp only [Bool.false_eq_true, if_false] at k
    refine c7_relates R.2.2.1 (joX_J R.2.2.1 R.2.2.2.j h0 h1 h2 h3) (rs_same _ _ _ _) h0 h1 h2 (by omega) ?_
    rw [rs_rs]
    exact k
  · have z := z h2
    rw [hx] at z
    have z2 : jb (s (304 + x1)) x2 = true := by simpa using z
    rw [if_pos z2] at k
    exact k
theorem c7_laysLevels {p : Pn} {s : Int → Int} (R : Rf h p s) {K : Int → mH → Prop} {x1 : Int} (hx : mInR x1) (kt : vld p x1 → ∀ g : Int → Int, (∀ f, 0 ≤ f → f < 4 → g f = dg x1 f) → K 1 (rs h 45 0 g)) (kf : ¬ vld p x1 → ∀ g : Int → Int, K 0 (rs h 45 0 g)) : OkI M7_laysLevels [mR 30 0, mI x1] h K := by
  have h4 := R.n4
  have p8 : ∀ f : Int, 0 ≤ f → (8 : Int) ^ (f + 1).toNat = 8 ^ f.toNat * 8 := by
    intro f hf
    rw [show (f + 1).toNat = f.toNat + 1 by omega, Int.pow_succ]
  have key : ∀ n : Nat, ∀ f x2 x3 : Int, ∀ g : Int → Int, 0 ≤ f → f + n = 4 → mInR x2 → (x3 = 0 ∨ x3 = 1) → (0 ≤ x1 → x2 = x1 / 8 ^ f.toNat ∧ ∀ q, 0 ≤ q → q < f → g q = dg x1 q) → (x3 = 1 ↔ (0 ≤ x1 ∧ ∀ q, 0 ≤ q → q < f → okd p x1 q)) → A7_laysLevels_15 K x1 x2 x3 f (rs h 45 0 g) := by
    intro n
    induction n with
    | zero =>
      intro f x2 x3 g h0 hf hx2 hx3 ha hb
      have hf4 : f = 4 := by omega
      subst hf4
      refine s7_laysLevels_15 ⟨by decide, fun _ => ⟨by omega, fun z => ?_, fun z => ⟨hx2, fun z2 => ?_, fun z2 => ?_⟩⟩, fun z => absurd (Int.le_refl _) z⟩
      · exact kf (fun w => by have := hb.mpr ⟨w.1, w.2.1⟩; omega) g
      · have h5 := hb.mp (by omega)
        have h6 := (ha h5.1).1
        exact kf (fun w => z2 (by rw [h6]; exact w.2.2)) g
      · have h5 := hb.mp (by omega)
        have h6 := ha h5.1
        exact kt ⟨h5.1, h5.2, by rw [← z2, h6.1]; rfl⟩ g h6.2
    | succ n ih =>
      intro f x2 x3 g h0 hf hx2 hx3 ha hb
      have hd2 : mInR (x2.tdiv 8) := by
        rcases Int.le_total 0 x2 with a | a
        · rw [tdivb a]; omega
        · have : x2.tdiv 8 = -((-x2).tdiv 8) := by rw [Int.neg_tdiv, Int.neg_neg]
          rw [this, tdivb (by omega)]; omega
      have e1 : mSet (rs h 45 0 g) 45 0 f (x2.tmod 8) = rs h 45 0 (up g f (x2.tmod 8)) := by rw [mSet_rs, rs_same, rs_rs]
      have hnew : 0 ≤ x1 → x2.tdiv 8 = x1 / 8 ^ (f + 1).toNat ∧ ∀ q, 0 ≤ q → q < f + 1 → up g f (x2.tmod 8) q = dg x1 q := by
        intro a
        have h6 := ha a
        have h7 : 0 ≤ x2 := by rw [h6.1]; exact Int.ediv_nonneg a (Int.pow_nonneg (by decide))
        refine ⟨?_, fun q b c => ?_⟩
        · rw [tdivb h7, p8 f h0, h6.1, Int.ediv_ediv_of_nonneg (Int.pow_nonneg (by decide))]
        · by_cases d : q = f
          · rw [d, up_same, Int.tmod_eq_emod_of_nonneg h7, h6.1]; rfl
          · rw [up_ne d]; exact h6.2 q b (by omega)
      have hR : Rf (rs h 45 0 (up g f (x2.tmod 8))) p s := R.fr (fun r hr => rs_r (by omega))
      refine s7_laysLevels_15 ⟨by omega, fun z => by omega, fun _ => ⟨hx2, by omega, ?_⟩⟩
      rintro _ rfl
      rw [e1]
      refine ⟨by omega, fun z => ⟨hx2, ih (f + 1) _ 0 _ (by omega) (by omega) hd2 (Or.inl rfl) hnew ⟨fun w => absurd w (by decide), fun w => ?_⟩⟩, fun z => c7_factors hR ?_⟩
      · have := hb.mpr ⟨w.1, fun q a b => w.2 q a (by omega)⟩
        omega
      · have h5 := hb.mp (by omega)
        have h6 := hnew h5.1
        have hdg : rs h 45 0 (up g f (x2.tmod 8)) 45 0 f = dg x1 f := by rw [rs_same]; exact h6.2 f h0 (by omega)
        have hdb := dg_bd x1 f
        rw [hdg]
        refine ⟨by omega, fun z2 => ⟨by omega, by omega, fun z3 => ⟨hx2, ih (f + 1) _ 0 _ (by omega) (by omega) hd2 (Or.inl rfl) hnew ⟨fun w => absurd w (by decide), fun w => ?_⟩⟩, fun z3 => ⟨hx2, ih (f + 1) _ 1 _ (by omega) (by omega) hd2 (Or.inr rfl) hnew ⟨fun _ => ⟨h5.1, fun q a b => ?_⟩, fun _ => rfl⟩⟩⟩, fun z2 => ⟨by omega, by omega, ?_⟩⟩
        · exact absurd ((w.2 f h0 (by omega)).2 z2) z3
        · by_cases d : q = f
          · rw [d]; exact ⟨fun w => by omega, fun _ => z3⟩
          · exact h5.2 q a (by omega)
        · rw [hR.e35 h0 (by omega)]
          have hl := R.pf h0 (show f < nf p by omega)
          refine ⟨by omega, fun z3 => ⟨hx2, ih (f + 1) _ 0 _ (by omega) (by omega) hd2 (Or.inl rfl) hnew ⟨fun w => absurd w (by decide), fun w => ?_⟩⟩, fun z3 => ⟨hx2, ih (f + 1) _ 1 _ (by omega) (by omega) hd2 (Or.inr rfl) hnew ⟨fun _ => ⟨h5.1, fun q a b => ?_⟩, fun _ => rfl⟩⟩⟩
          · have := (w.2 f h0 (by omega)).1 (by omega)
            omega
          · by_cases d : q = f
            · rw [d]; exact ⟨fun _ => by omega, fun w => by omega⟩
            · exact h5.2 q a (by omega)
  have start : ∀ x3, (x3 = 0 ∨ x3 = 1) → (x3 = 1 ↔ 0 ≤ x1) → A7_laysLevels_15 K x1 x1 x3 0 h := by
    intro x3 a b
    have := key 4 0 x1 x3 (h 45 0) (by omega) (by omega) hx a (fun _ => ⟨by simp, fun q c d => by omega⟩) ⟨fun w => ⟨b.mp w, fun q c d => by omega⟩, fun w => b.mpr w.1⟩
    rwa [rs_self] at this
  exact s7_laysLevels ⟨hx, fun z => start 0 (Or.inl rfl) ⟨fun w => absurd w (by decide), fun w => by omega⟩, fun z => start 1 (Or.inr rfl) ⟨fun _ => by omega, fun _ => rfl⟩⟩
end REF8
