/-! the class: gathering, balances, counts -/
section CLS5
variable {h h2 : mH} {b : Int} {p : Pn} {s nm : Int → Int}
theorem k2_gather (B : Bk h b p s) (D : Pd h b p s) {K : mH → Prop} {f : Int} (h0 : 0 ≤ f) (h1 : f < nf p) (k : ∀ h2, Gd h2 b p s f → Pd h2 b p s → FrF b h h2 → K h2) : OkV M2_gather [mR 12 b, mI f] h K := by
  have hp := B.wp
  have hs := B.wf
  have h4 := hp.1.1
  have hm := B.m40
  have hlv := (hp.2 f h0 h1).1
  have l3 : ∀ x : Nat, (x : Int) ≤ 5 → A2_gather_150 K b f x (hG h b f (fun l => if (x : Int) ≤ l then acD s f (fun r => s (7 * r + 1)) l else lsS s f (fun r => s (7 * r + 1)) (s 310) l) (fun l => if (x : Int) ≤ l then acD s f (pr p s) l else lsS s f (pr p s) (s 310) l) (fun l => if (x : Int) ≤ l then acD s f (fun r => s (7 * r + 0)) l else lsS s f (fun r => s (7 * r + 0)) (s 310) l) (fun l => if (x : Int) ≤ l then acD s f (fun _ => 1) l else lsS s f (fun _ => 1) (s 310) l)) := by
    intro x
    induction x with
    | zero =>
      intro _
      refine s2_gather_150 ⟨by decide, fun _ => k _ (fun l a c e => ?_) (fun r a c => by rw [hG_no (by decide)]; exact D r a c) hG_fr, fun z => absurd (Int.le_refl _) z⟩
      rw [hG_14, hG_15, hG_16, hG_17, gwR_at a (by omega), gwR_at a (by omega), gwR_at a (by omega), gwR_at a (by omega)]
      have a2 : ((0 : Nat) : Int) ≤ l := by omega
      rw [if_pos a2, if_pos a2, if_pos a2, if_pos a2, acD_cs hp hs _ h0 h1 a e, acD_cs hp hs _ h0 h1 a e, acD_cs hp hs _ h0 h1 a e, acD_cs hp hs _ h0 h1 a e]
      exact ⟨rfl, rfl, rfl, rfl⟩
    | succ x ih =>
      intro hx
      have ih := ih (by omega)
      have hxe : ((x + 1 : Nat) : Int) = (x : Int) + 1 := by omega
      rw [hxe]
      have BJ2 : BJ (hG h b f (fun l => if (x : Int) + 1 ≤ l then acD s f (fun r => s (7 * r + 1)) l else lsS s f (fun r => s (7 * r + 1)) (s 310) l) (fun l => if (x : Int) + 1 ≤ l then acD s f (pr p s) l else lsS s f (pr p s) (s 310) l) (fun l => if (x : Int) + 1 ≤ l then acD s f (fun r => s (7 * r + 0)) l else lsS s f (fun r => s (7 * r + 0)) (s 310) l) (fun l => if (x : Int) + 1 ≤ l then acD s f (fun _ => 1) l else lsS s f (fun _ => 1) (s 310) l)) b p s := B.j.fr (hG_no (by decide))
      have nojn : ∀ w, jb (s (304 + f)) (x : Int) = false → ∀ l : Int, 0 ≤ l → l < 8 → (if (x : Int) + 1 ≤ l then acD s f w l else lsS s f w (s 310) l) = (if (x : Int) ≤ l then acD s f w l else lsS s f w (s 310) l) := by
        intro w hw l a c
        by_cases e : (x : Int) + 1 ≤ l
        · rw [if_pos e, if_pos (by omega)]
        · rw [if_neg e]
          by_cases e2 : (x : Int) ≤ l
          · have e3 : l = (x : Int) := by omega
            rw [if_pos e2, e3, acD_s hp hs w h0 h1 (l := (x : Int)) (by omega), hw]
            simp
          · rw [if_neg e2]
      have jn : ∀ w, jb (s (304 + f)) (x : Int) = true → ∀ l : Int, 0 ≤ l → l < 8 → up (fun l => if (x : Int) + 1 ≤ l then acD s f w l else lsS s f w (s 310) l) (x : Int) (lsS s f w (s 310) (x : Int) + acD s f w ((x : Int) + 1)) l = (if (x : Int) ≤ l then acD s f w l else lsS s f w (s 310) l) := by
        intro w hw l a c
        unfold up
        by_cases e3 : l = (x : Int)
        · rw [if_pos e3, e3, if_pos (Int.le_refl _), acD_s hp hs w h0 h1 (l := (x : Int)) (by omega), if_pos hw]
        · rw [if_neg e3]
          dsimp only
          by_cases e : (x : Int) + 1 ≤ l
          · rw [if_pos e, if_pos (by omega)]
          · rw [if_neg e, if_neg (by omega)]
      refine s2_gather_150 ⟨by omega, fun z => by omega, fun _ => ?_⟩
      rw [show (x : Int) + 1 - 1 = (x : Int) by omega, show (x : Int) + 1 + -1 = (x : Int) by omega]
      refine k0_isJoined BJ2 h4.2 h0 h1 (by omega) (by omega) (fun e => ⟨by decide, fun w => absurd w (by decide), fun _ => k_slot (by omega) (by omega) (s2_addToLower ⟨by omega, fun z => by omega, fun _ => ?_⟩)⟩) (fun e => ⟨by decide, fun _ => ?_, fun w => absurd rfl w⟩)
      · rw [show 8 * f + ((x : Int) + 1) - 1 = 8 * f + (x : Int) by omega]
        refine ⟨by omega, by omega, by omega, ?_⟩
        rintro _ rfl
        rw [hG_s14 (by omega) (by omega)]
        refine ⟨by omega, by omega, by omega, ?_⟩
        rintro _ rfl
        rw [hG_s15 (by omega) (by omega)]
        refine ⟨by omega, by omega, by omega, ?_⟩
        rintro _ rfl
        rw [hG_s16 (by omega) (by omega)]
        refine ⟨by omega, by omega, by omega, ?_⟩
        rintro _ rfl
        rw [hG_s17 (by omega) (by omega)]
        rw [hG_14, hG_15, hG_16, hG_17, gwR_at (by omega) (by omega), gwR_at (by omega) (by omega), gwR_at (by omega) (by omega), gwR_at (by omega) (by omega), gwR_at (by omega) (by omega), gwR_at (by omega) (by omega), gwR_at (by omega) (by omega), gwR_at (by omega) (by omega)]
        have n1 : ¬ (x : Int) + 1 ≤ (x : Int) := by omega
        have n2 : (x : Int) + 1 ≤ (x : Int) + 1 := Int.le_refl _
        simp only [if_neg n1, if_pos n2]
        rw [hG_congr (jn _ e) (jn _ e) (jn _ e) (jn _ e)]
        exact ih
      · rw [hG_congr (nojn _ e) (nojn _ e) (nojn _ e) (nojn _ e)]
        exact ih
  have l2 : A2_gather_50 K b f 0 (hG h b f (lsS s f (fun r => s (7 * r + 1)) 0) (lsS s f (pr p s) 0) (lsS s f (fun r => s (7 * r + 0)) 0) (lsS s f (fun _ => 1) 0)) := by
    refine upI (P := fun r => A2_gather_50 K b f r (hG h b f (lsS s f (fun r => s (7 * r + 1)) r) (lsS s f (pr p s) r) (lsS s f (fun r => s (7 * r + 0)) r) (lsS s f (fun _ => 1) r))) (n := s 310) ?_ (fun r h5 h6 ih => ?_) 0 (by omega) (by omega)
    · refine s2_gather_50 ?_
      rw [hG_no (by decide), B.m]
      refine ⟨by omega, fun _ => ?_, fun z => absurd (Int.le_refl _) z⟩
      have := l3 5 (by decide)
      have tp : ∀ w, ∀ l : Int, 0 ≤ l → l < 8 → (if ((5 : Nat) : Int) ≤ l then acD s f w l else lsS s f w (s 310) l) = lsS s f w (s 310) l := by
        intro w l a c
        by_cases e : ((5 : Nat) : Int) ≤ l
        · rw [if_pos e, acD_top hp hs w h0 h1 e]
        · rw [if_neg e]
      rw [hG_congr (tp _) (tp _) (tp _) (tp _)] at this
      exact this
    · have hr := hs.2.1 r h5 h6
      have hr3 := hr.2.2.2 f h0 (by omega)
      have hr4 := hr3.2.1 h1
      have hr5 := hr.1
      have hr6 := hr.2.1
      have hk := B.rk h5 h6
      have hpk := pkL_bd hp hs h5 h6
      refine s2_gather_50 ?_
      rw [hG_no (q := 1) (by decide), B.m, hG_no (q := 5) (by decide), hk.2.2.2]
      refine ⟨by omega, fun z => by omega, fun _ => ⟨by omega, k_levelIn (by omega) (by omega) (k_slot (by omega) (by rw [pkL_dg hp hs h5 h6 h0 (by omega)]; omega) ?_)⟩⟩
      rw [pkL_dg hp hs h5 h6 h0 (by omega), hG_no (q := 3) (by decide), hk.2.1]
      refine ⟨by omega, by omega, by omega, by omega, ?_⟩
      rintro _ rfl
      rw [hG_s14 hr3.1 (by omega)]
      refine ⟨by omega, by omega, by omega, ?_⟩
      rintro _ rfl
      rw [hG_s15 hr3.1 (by omega), hG_no (q := 2) (by decide), hk.1]
      refine ⟨by omega, by omega, by omega, by omega, ?_⟩
      rintro _ rfl
      rw [hG_s16 hr3.1 (by omega)]
      refine ⟨by omega, by omega, ?_⟩
      rintro _ rfl
      rw [hG_s17 hr3.1 (by omega), hG_14, hG_15, hG_16, hG_17, hG_no (q := 13) (by decide), D r h5 h6, gwR_at hr3.1 (by omega), gwR_at hr3.1 (by omega), gwR_at hr3.1 (by omega), gwR_at hr3.1 (by omega)]
      have e1 := lsS_s (s := s) (f := f) (w := fun r => s (7 * r + 1)) h5
      have e2 := lsS_s (s := s) (f := f) (w := pr p s) h5
      have e3 := lsS_s (s := s) (f := f) (w := fun r => s (7 * r + 0)) h5
      have e4 := lsS_s (s := s) (f := f) (w := fun _ => 1) h5
      rw [e1, e2, e3, e4]
      exact ih
  refine s2_gather ?_
  have key := upI (P := fun q => A2_gather_2 K b f q (hG h b f (zr (fun l => h 14 b (8 * f + l)) q) (zr (fun l => h 15 b (8 * f + l)) q) (zr (fun l => h 16 b (8 * f + l)) q) (zr (fun l => h 17 b (8 * f + l)) q))) (n := 8) ?_ (fun q h5 h6 ih => ?_) 0 (by omega) (by omega)
  · rw [zr_0, zr_0, zr_0, zr_0, ← hG_of] at key
    exact key
  · refine s2_gather_2 ⟨by decide, fun _ => ?_, fun z => absurd (by decide) z⟩
    have z8 : ∀ a w : Int → Int, ∀ l : Int, 0 ≤ l → l < 8 → lsS s f w 0 l = zr a 8 l := by
      intro a w l c d
      unfold zr lsS
      rw [if_pos ⟨c, d⟩, sm_0]
    rw [hG_congr (z8 _ _) (z8 _ _) (z8 _ _) (z8 _ _)] at l2
    exact l2
  · refine s2_gather_2 ⟨by omega, fun z => by omega, fun _ => k_slot (by omega) (by omega) ⟨by omega, ?_⟩⟩
    rintro _ rfl
    rw [hG_s14 h5 h6, zr_s h5]
    refine ⟨by omega, ?_⟩
    rintro _ rfl
    rw [hG_s15 h5 h6, zr_s h5]
    refine ⟨by omega, ?_⟩
    rintro _ rfl
    rw [hG_s16 h5 h6, zr_s h5]
    refine ⟨by omega, ?_⟩
    rintro _ rfl
    rw [hG_s17 h5 h6, zr_s h5]
    exact ih
theorem k2_measure (P : Pl h 0 p nm) (B : Bk h b p s) {K : mH → Prop} {f : Int} (h0 : 0 ≤ f) (h1 : f < nf p) (k : ∀ h2, Gd h2 b p s f → Pd h2 b p s → FrF b h h2 → K h2) : OkV M2_measure [mR 12 b, mI f] h K :=
  s2_measure (k2_price P B (fun h2 D F => k2_gather (F.bk B) D h0 h1 (fun h3 G D3 F3 => k h3 G D3 (F.tr F3))))
theorem k2_differsBy (B : Bk h b p s) {K : Int → mH → Prop} {f l : Int} (h0 : 0 ≤ f) (h1 : f < nf p) (G : Gd h b p s f) (h2 : 0 ≤ l) (h3 : l < lv p f) (hl : fs s f l = l) (k : K (dif p s f l) h) : OkJ M2_differsBy [mR 12 b, mI (8 * f + l)] h K := by
  have hp := B.wp
  have hs := B.wf
  have h4 := hp.1.1
  have hlv := (hp.2 f h0 h1).1
  have hg := G l h2 h3 hl
  have hc := csC_bd hs f l
  have hP := csP_bd hp hs f l
  refine s2_differsBy ?_
  rw [hg.1, hg.2.1]
  exact ⟨by omega, by omega, by omega, k⟩
theorem k2_balances (P : Pl h 0 p nm) (B : Bk h b p s) {K : Int → mH → Prop} {f l : Int} (h0 : 0 ≤ f) (h1 : f < nf p) (G : Gd h b p s f) (h2 : 0 ≤ l) (h3 : l < lv p f) (hl : fs s f l = l) (kt : bal p s f l = true → K 1 h) (kf : bal p s f l = false → K 0 h) : OkI M2_balances [mR 12 b, mI f, mI l] h K := by
  have hp := B.wp
  have hs := B.wf
  have h4 := hp.1.1
  have hpf := hp.2 f h0 h1
  have hg := G l h2 h3 hl
  have hc := csC_bd hs f l
  have hP := csP_bd hp hs f l
  have hR := csR_bd hs f l
  have hd := dif_bd hp hs f l
  have hbd := hp.1.2.1
  have hm := mulb (x := bd p) (y := csC s f l) (A := 999) (B := 3999960) hbd hc
  have hr := rel_bd hp hs h0 h1 h2 h3
  refine s2_balances (k_slot (by omega) (by omega) ⟨by omega, ?_⟩)
  rw [hg.2.2.2]
  have E : bal p s f l = (decide (csR s f l = 0) || (decide (dif p s f l * 1000 ≤ bd p * csC s f l) || ((decide (s (280 + 6 * f + l) = lo p f) && decide (csC s f l < csP p s f l)) || (decide (s (280 + 6 * f + l) = hi p f) && decide (csP p s f l < csC s f l))))) := rfl
  refine ⟨by omega, fun z => kt (by rw [E, decide_eq_true z]; rfl), fun z => k2_differsBy B h0 h1 G h2 h3 hl ?_⟩
  rw [decide_eq_false z, Bool.false_or] at E
  rw [P.1.2.1, hg.1, hg.2.1, B.l h0 h1 h2 h3, P.lo h0 h1]
  refine ⟨by omega, by omega, by omega, fun z2 => ?_, fun z2 => kt (by rw [E, decide_eq_true (show dif p s f l * 1000 ≤ bd p * csC s f l by omega)]; rfl)⟩
  rw [decide_eq_false (show ¬ dif p s f l * 1000 ≤ bd p * csC s f l by omega), Bool.false_or] at E
  have tail : (decide (s (280 + 6 * f + l) = lo p f) && decide (csC s f l < csP p s f l)) = false → A2_balances_86 K b f l (8 * f + l) (s (280 + 6 * f + l)) h := by
    intro e
    rw [e, Bool.false_or] at E
    refine s2_balances_86 ⟨by omega, ?_⟩
    rw [P.hi h0 h1, hg.1, hg.2.1]
    refine ⟨by omega, fun z3 => kf (by rw [E, decide_eq_false z3]; rfl), fun z3 => ⟨by omega, by omega, by omega, fun z4 => kf (by rw [E, decide_eq_false (show ¬ csP p s f l < csC s f l by omega), Bool.and_false]), fun z4 => kt (by rw [E, decide_eq_true z3, decide_eq_true (show csP p s f l < csC s f l by omega)]; rfl)⟩⟩
  refine ⟨by omega, by omega, by omega, fun z3 => tail (by rw [decide_eq_false z3]; rfl), fun z3 => ⟨by omega, by omega, by omega, fun z4 => kt (by rw [E, decide_eq_true z3, decide_eq_true z4]; rfl), fun z4 => tail (by rw [decide_eq_false z4, Bool.and_false])⟩⟩
theorem k2_isOff (P : Pl h 0 p nm) (B : Bk h b p s) {K : Int → mH → Prop} {f l : Int} (h0 : 0 ≤ f) (h1 : f < nf p) (G : Gd h b p s f) (h2 : 0 ≤ l) (h3 : l < lv p f) (kt : fs s f l = l → bal p s f l = false → K 1 h) (kf : ¬ (fs s f l = l ∧ bal p s f l = false) → K 0 h) : OkI M2_isOff [mR 12 b, mI f, mI l] h K := by
  have h4 := P.n4
  have hlv := (P.pf h0 h1).1
  refine s2_isOff (k0_startsClass B.j h4.2 h0 h1 h2 (by omega) (fun z => ⟨by decide, fun w => absurd w (by decide), fun _ => k2_balances P B h0 h1 G h2 h3 z (fun e => ⟨by decide, fun _ => kf (fun w => by rw [e] at w; cases w.2), fun w => absurd w (by decide)⟩) (fun e => ⟨by decide, fun w => absurd rfl w, fun _ => kt z e⟩)⟩) (fun z => ⟨by decide, fun _ => kf (fun w => z w.1), fun w => absurd rfl w⟩))
theorem k2_isFilled (P : Pl h 0 p nm) (B : Bk h b p s) {K : Int → mH → Prop} {f l : Int} (h0 : 0 ≤ f) (h1 : f < nf p) (G : Gd h b p s f) (h2 : 0 ≤ l) (h3 : l < lv p f) (kt : fs s f l = l → ¬ csR s f l = 0 → K 1 h) (kf : ¬ (fs s f l = l ∧ ¬ csR s f l = 0) → K 0 h) : OkI M2_isFilledClass [mR 12 b, mI f, mI l] h K := by
  have h4 := P.n4
  have hlv := (P.pf h0 h1).1
  have hR := csR_bd B.wf f l
  refine s2_isFilledClass (k0_startsClass B.j h4.2 h0 h1 h2 (by omega) (fun z => ⟨by decide, fun w => absurd w (by decide), fun _ => k_slot (by omega) (by omega) ⟨by omega, ?_⟩⟩) (fun z => ⟨by decide, fun _ => kf (fun w => z w.1), fun w => absurd rfl w⟩))
  rw [(G l h2 h3 z).2.2.2]
  exact ⟨by omega, fun z2 => kf (fun w => w.2 (by omega)), fun z2 => kt z (by omega)⟩
end CLS5
