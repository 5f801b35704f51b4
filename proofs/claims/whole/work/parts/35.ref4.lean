/-! a turn of the reference -/
section CONGR
variable {p : Pn} {s t : Int → Int}
theorem bhN_congr {e : Int} {g : Int → Int} (e1 : t 308 = s 308) : ∀ n : Nat, (∀ f : Int, 0 ≤ f → f < n → t (280 + 6 * f + g f) = s (280 + 6 * f + g f)) → bhN t e g n = bhN s e g n
  | 0, _ => by simp only [bhN, e1]
  | n + 1, h => by
    simp only [bhN]
    rw [bhN_congr e1 n (fun f a b => h f a (by omega)), h n (by omega) (by omega)]
theorem bh_congr {e n : Int} {g : Int → Int} (e1 : t 308 = s 308) (h : ∀ f : Int, 0 ≤ f → f < n → t (280 + 6 * f + g f) = s (280 + 6 * f + g f)) : bh t e g n = bh s e g n := bhN_congr e1 _ (fun f a b => h f a (by omega))
theorem bhN_lev {e : Int} {g g2 : Int → Int} : ∀ n : Nat, (∀ f : Int, 0 ≤ f → f < n → g2 f = g f) → bhN s e g2 n = bhN s e g n
  | 0, _ => rfl
  | n + 1, h => by
    simp only [bhN]
    rw [bhN_lev n (fun f a b => h f a (by omega)), h n (by omega) (by omega)]
theorem bh_lev {e n : Int} {g g2 : Int → Int} (h : ∀ f : Int, 0 ≤ f → f < n → g2 f = g f) : bh s e g2 n = bh s e g n := bhN_lev _ (fun f a b => h f a (by omega))
theorem prm_lev {e n : Int} {g g2 : Int → Int} (h : ∀ f : Int, 0 ≤ f → f < n → g2 f = g f) : prm s n e g2 = prm s n e g := by unfold prm; rw [bh_lev h]
theorem prm_congr {e n : Int} {g : Int → Int} (e1 : t 308 = s 308) (e2 : t 312 = s 312) (e3 : t 313 = s 313) (h : ∀ f : Int, 0 ≤ f → f < n → t (280 + 6 * f + g f) = s (280 + 6 * f + g f)) : prm t n e g = prm s n e g := by unfold prm; rw [bh_congr e1 h, e2, e3]
theorem pr_congr {r : Int} (e1 : t 308 = s 308) (e2 : t 312 = s 312) (e3 : t 313 = s 313) (e4 : t (7 * r + 0) = s (7 * r + 0)) (e5 : ∀ f : Int, 0 ≤ f → f < nf p → t (7 * r + 3 + f) = s (7 * r + 3 + f)) (h : ∀ f : Int, 0 ≤ f → f < nf p → t (280 + 6 * f + s (7 * r + 3 + f)) = s (280 + 6 * f + s (7 * r + 3 + f))) : pr p t r = pr p s r := by
  unfold pr
  rw [e4, prm_lev (g := fun f => s (7 * r + 3 + f)) e5]
  exact prm_congr e1 e2 e3 h
theorem cs_congr {f l : Int} {w v : Int → Int} (e1 : t 310 = s 310) (e2 : t (304 + f) = s (304 + f)) (e3 : ∀ r : Int, 0 ≤ r → r < s 310 → t (7 * r + 3 + f) = s (7 * r + 3 + f)) (h : ∀ r : Int, 0 ≤ r → r < s 310 → fs s f (s (7 * r + 3 + f)) = fs s f l → w r = v r) : cs t f l w = cs s f l v := by
  unfold cs
  rw [e1]
  refine sm_congr (fun r h0 h1 => ?_)
  unfold co
  rw [e3 r h0 h1, fs_congr e2, fs_congr e2]
  by_cases e : fs s f (s (7 * r + 3 + f)) = fs s f l
  · rw [if_pos e, if_pos e, h r h0 h1 e]
  · rw [if_neg e, if_neg e]
end CONGR
section TUU
variable {p : Pn} {s : Int → Int} {f : Int}
theorem tuU_off (hp : WfP p) (h0 : 0 ≤ f) (h1 : f < nf p) (l : Int) {j : Int} (hj : j < 280 ∨ 304 ≤ j) : tuU p s f l j = s j := by
  have := hp.1.1
  have := hp.2 f h0 h1
  unfold tuU
  rw [if_neg (by omega)]
theorem tuU_g (hp : WfP p) (h0 : 0 ≤ f) (h1 : f < nf p) (l : Int) {g k : Int} (hg : 0 ≤ g) (hg1 : g < nf p) (hk : 0 ≤ k) (hk1 : k < lv p g) (hne : g ≠ f) : tuU p s f l (280 + 6 * g + k) = s (280 + 6 * g + k) := by
  have := hp.2 f h0 h1
  have := hp.2 g hg hg1
  unfold tuU
  rw [if_neg (by omega)]
theorem tuU_f (hp : WfP p) (h0 : 0 ≤ f) (h1 : f < nf p) (l : Int) {k : Int} (hk : 0 ≤ k) (hk1 : k < lv p f) : tuU p s f l (280 + 6 * f + k) = if fs s f k < l then tv p s f (fs s f k) (s (280 + 6 * f + k)) else s (280 + 6 * f + k) := by
  unfold tuU
  rw [show 280 + 6 * f + k - (280 + 6 * f) = k by omega]
  by_cases c : fs s f k < l
  · rw [if_pos ⟨by omega, c⟩, if_pos c]
  · rw [if_neg (fun z => c z.2), if_neg c]
theorem tuU_wf (hp : WfP p) (hs : WfS p s) (h0 : 0 ≤ f) (h1 : f < nf p) (l : Int) : WfS p (tuU p s f l) := by
  have hn := hp.1.1
  have hm := hs.1.1
  have off : ∀ {j : Int}, j < 280 ∨ 304 ≤ j → tuU p s f l j = s j := fun hj => tuU_off hp h0 h1 l hj
  have e310 := off (j := 310) (by omega)
  refine ⟨?_, fun r a b => ?_, fun g a b k c d => ?_, fun g a b k c d e => ?_⟩
  · unfold WfN
    rw [e310, off (j := 308) (by omega), off (j := 309) (by omega), off (j := 311) (by omega), off (j := 312) (by omega), off (j := 313) (by omega)]
    exact hs.1
  · rw [e310] at b
    have := hs.2.1 r a b
    unfold WfR at this ⊢
    rw [off (j := 7 * r + 0) (by omega), off (j := 7 * r + 1) (by omega), off (j := 7 * r + 2) (by omega)]
    refine ⟨this.1, this.2.1, this.2.2.1, fun q c d => ?_⟩
    rw [off (j := 7 * r + 3 + q) (by omega)]
    exact this.2.2.2 q c d
  · by_cases e : g = f
    · subst e
      rw [tuU_f hp h0 h1 l c d]
      have h3 := hs.2.2.1 g a b k c d
      split
      · unfold tv
        split
        · exact h3
        · have := fs_le (s := s) (f := g) c
          exact nv_bd hp hs h0 h1 this.1 (by omega)
      · exact h3
    · rw [tuU_g hp h0 h1 l a b c d e]
      exact hs.2.2.1 g a b k c d
  · rw [off (j := 304 + g) (by omega)] at e
    have h3 := hs.2.2.2 g a b k c d e
    refine ⟨h3.1, ?_⟩
    by_cases e2 : g = f
    · subst e2
      rw [tuU_f hp h0 h1 l c (by omega), tuU_f hp h0 h1 l (k := k + 1) (by omega) h3.1, fs_s c, if_pos e, h3.2]
    · rw [tuU_g hp h0 h1 l a b c (by omega) e2, tuU_g hp h0 h1 l a b (k := k + 1) (by omega) h3.1 e2]
      exact h3.2
/-- where l is first, all sums are as they were -/
theorem tuU_sums (hp : WfP p) (hs : WfS p s) (h0 : 0 ≤ f) (h1 : f < nf p) {l : Int} (h2 : 0 ≤ l) (h3 : l < lv p f) (hl : fs s f l = l) :
    csR (tuU p s f l) f l = csR s f l ∧ csC (tuU p s f l) f l = csC s f l ∧ csE (tuU p s f l) f l = csE s f l ∧ csP p (tuU p s f l) f l = csP p s f l ∧ nv p (tuU p s f l) f l = nv p s f l ∧ tuU p s f l (280 + 6 * f + l) = s (280 + 6 * f + l) := by
  have hn := hp.1.1
  have hm := hs.1.1
  have off : ∀ {j : Int}, j < 280 ∨ 304 ≤ j → tuU p s f l j = s j := fun hj => tuU_off hp h0 h1 l hj
  have e1 := off (j := 310) (by omega)
  have e2 := off (j := 304 + f) (by omega)
  have e3 : ∀ r : Int, 0 ≤ r → r < s 310 → tuU p s f l (7 * r + 3 + f) = s (7 * r + 3 + f) := fun r a b => off (by omega)
  have hR : csR (tuU p s f l) f l = csR s f l := cs_congr e1 e2 e3 (fun _ _ _ _ => rfl)
  have hC : csC (tuU p s f l) f l = csC s f l := cs_congr e1 e2 e3 (fun r a b _ => off (by omega))
  have hE : csE (tuU p s f l) f l = csE s f l := cs_congr e1 e2 e3 (fun r a b _ => off (by omega))
  have hP : csP p (tuU p s f l) f l = csP p s f l := by
    refine cs_congr e1 e2 e3 (fun r a b c => pr_congr (off (by omega)) (off (by omega)) (off (by omega)) (off (by omega)) (fun g d e => off (by omega)) (fun g d e => ?_))
    have hlev := (hs.2.1 r a b).2.2.2 g d (by omega)
    by_cases e4 : g = f
    · subst e4
      rw [tuU_f hp h0 h1 l hlev.1 (hlev.2.1 e), if_neg (by rw [c, hl]; omega)]
    · exact tuU_g hp h0 h1 l d e hlev.1 (hlev.2.1 e) e4
  have hv : tuU p s f l (280 + 6 * f + l) = s (280 + 6 * f + l) := by rw [tuU_f hp h0 h1 l h2 h3, if_neg (by rw [hl]; omega)]
  refine ⟨hR, hC, hE, hP, ?_, hv⟩
  unfold nv
  rw [hC, hE, hP, hv, off (j := 311) (by omega)]
/-- l isn't first, or nothing is done: no change -/
theorem tuU_skip {l : Int} (h : ¬ fs s f l = l ∨ csP p s f l = 0) : tuU p s f (l + 1) = tuU p s f l := by
  funext j
  unfold tuU
  by_cases a : 280 + 6 * f ≤ j ∧ j < 280 + 6 * f + lv p f
  · by_cases b : fs s f (j - (280 + 6 * f)) < l
    · rw [if_pos ⟨a, by omega⟩, if_pos ⟨a, b⟩]
    · by_cases c : fs s f (j - (280 + 6 * f)) = l
      · rw [if_pos ⟨a, by omega⟩, if_neg (fun z => b z.2), c]
        rcases h with h | h
        · exact absurd (by rw [← c]; exact fs_fs s f _) h
        · unfold tv; rw [if_pos h]
      · rw [if_neg (fun z => by omega), if_neg (fun z => b z.2)]
  · rw [if_neg (fun z => a z.1), if_neg (fun z => a z.1)]
theorem tuU_do (hp : WfP p) (hs : WfS p s) (h0 : 0 ≤ f) (h1 : f < nf p) {l : Int} (h2 : 0 ≤ l) (h3 : l < lv p f) (hl : fs s f l = l) (hP : ¬ csP p s f l = 0) : reS (tuU p s f l) f l (nv p s f l) = tuU p s f (l + 1) := by
  have hn := hp.1.1
  have hlv := hp.2 f h0 h1
  have e2 := tuU_off (s := s) hp h0 h1 l (j := 304 + f) (by omega)
  have hlb := la_bd hp hs.j h0 h1 h2 h3
  funext j
  unfold reS
  rw [fs_congr e2, la_congr e2, hl]
  by_cases a : 280 + 6 * f ≤ j ∧ j < 280 + 6 * f + lv p f
  · have hi := la_iff hp hs.j (k := j - (280 + 6 * f)) h0 h1 h2 h3 (by omega)
    rw [hl] at hi
    by_cases b : fs s f (j - (280 + 6 * f)) = l
    · have := hi.mp b
      rw [if_pos (by omega)]
      unfold tuU tv
      rw [if_pos ⟨a, by omega⟩, b, if_neg hP]
    · have := fun z => b (hi.mpr z)
      rw [if_neg (by omega)]
      unfold tuU
      by_cases c : fs s f (j - (280 + 6 * f)) < l
      · rw [if_pos ⟨a, c⟩, if_pos ⟨a, by omega⟩]
      · rw [if_neg (fun z => c z.2), if_neg (fun z => by omega)]
  · rw [if_neg (by omega)]
    unfold tuU
    rw [if_neg (fun z => a z.1), if_neg (fun z => a z.1)]
theorem tuU_0 : tuU p s f 0 = s := by
  funext j
  unfold tuU
  by_cases a : 280 + 6 * f ≤ j ∧ j < 280 + 6 * f + lv p f
  · have := fs_le (s := s) (f := f) (l := j - (280 + 6 * f)) (by omega)
    rw [if_neg (by omega)]
  · rw [if_neg (fun z => a z.1)]
theorem tuU_end : tuU p s f (lv p f) = tuS p s f := by
  funext j
  unfold tuU tuS
  by_cases a : 280 + 6 * f ≤ j ∧ j < 280 + 6 * f + lv p f
  · have := fs_le (s := s) (f := f) (l := j - (280 + 6 * f)) (by omega)
    rw [if_pos ⟨a, by omega⟩, if_pos a]
  · rw [if_neg (fun z => a z.1), if_neg a]
theorem tuS_wf (hp : WfP p) (hs : WfS p s) (h0 : 0 ≤ f) (h1 : f < nf p) : WfS p (tuS p s f) := by rw [← tuU_end]; exact tuU_wf hp hs h0 h1 _
end TUU
section REF4
variable {h : mH} {p : Pn} {s : Int → Int}
theorem Rf.row (R : Rf h p s) {t : Int → Int} (ht : WfS p t) : Rf (rs h 41 0 t) p t := R.to (fun r hr => rs_r (by omega)) (rs_same _ _ _ _) ht
theorem c7_turns (R : Rf h p s) {K : Int → mH → Prop} {x1 : Int} (h0 : 0 ≤ x1) (h1 : x1 < nf p) (k : K (tc p s x1) (rs h 41 0 (tuS p s x1))) : OkI M7_turns [mR 30 0, mI x1] h K := by
  have hp := R.2.2.1
  have hs := R.2.2.2
  have h4 := R.n4
  have hl := hp.2 x1 h0 h1
  have key := upI (P := fun l => A7_turns_4 K x1 (sm (tcL p s x1) l) l (rs h 41 0 (tuU p s x1 l))) (n := lv p x1) ?_ (fun l h2 h3 ih => ?_) 0 (by omega) (by omega)
  · rw [tuU_0, ← R.es, rs_self, sm_0] at key
    exact s7_turns key
  · refine s7_turns_4 ⟨by omega, ?_⟩
    rw [rs_r (by decide), R.e35 h0 h1, tuU_end]
    exact ⟨by omega, fun _ => k, fun z => absurd (Int.le_refl _) z⟩
  · have Rl := R.row (tuU_wf hp hs h0 h1 l)
    have e2 := tuU_off (s := s) hp h0 h1 l (j := 304 + x1) (by omega)
    rw [sm_s _ h2] at ih
    have hfs := fs_le (s := s) (f := x1) h2
    refine s7_turns_4 ⟨by omega, ?_⟩
    rw [Rl.e35 h0 h1]
    refine ⟨by omega, fun z => by omega, fun _ => c7_firstOf Rl.es (by omega) (by omega) ?_⟩
    rw [fs_congr e2]
    refine ⟨by omega, fun z => ?_, fun z => c7_risksOf Rl h0 h1 h2 h3 ?_⟩
    · rw [tuU_skip (Or.inl z), tcL, if_neg (fun w => z w.1), Int.add_zero] at ih
      exact ih
    · obtain ⟨hR, hC, hE, hP, hN, hV⟩ := tuU_sums hp hs h0 h1 h2 h3 z
      have bR := csR_bd hs x1 l
      have bC := csC_bd hs x1 l
      have bP := csP_bd hp hs x1 l
      have skip : csP p s x1 l = 0 → A7_turns_4 K x1 (sm (tcL p s x1) l) (l + 1) (rs h 41 0 (tuU p s x1 l)) := by
        intro w
        rw [tuU_skip (Or.inr w), tcL, if_neg (fun a => a.2.1 w), Int.add_zero] at ih
        exact ih
      rw [hR]
      refine ⟨by omega, fun z2 => c7_premiumsOf Rl h0 h1 h2 h3 ?_, fun z2 => skip (cs_none z2 _)⟩
      rw [hP]
      refine ⟨by omega, fun z3 => ?_, fun z3 => skip z3⟩
      have hr := rel_bd hp hs h0 h1 h2 h3
      have hnv := nv_bd hp hs h0 h1 h2 h3
      have hm := mulb (x := s (280 + 6 * x1 + l)) (y := csC s x1 l) (A := 99999) (B := 3999960) (by omega) bC
      refine c7_relativityOf Rl.es (by omega) (by omega) ?_
      rw [hV]
      refine ⟨by omega, c7_sumC Rl h0 h1 h2 h3 ?_⟩
      rw [hC]
      refine ⟨⟨by omega, by omega, z3⟩, by omega, ?_⟩
      rw [Rl.e36 h0 h1]
      refine ⟨by omega, by omega, ?_⟩
      rw [Rl.e37 h0 h1]
      have hq : 0 ≤ (s (280 + 6 * x1 + l) * csC s x1 l).tdiv (csP p s x1 l) ∧ (s (280 + 6 * x1 + l) * csC s x1 l).tdiv (csP p s x1 l) ≤ 99999 * 3999960 := by
        rw [tdivb hm.1]
        refine ⟨Int.ediv_nonneg hm.1 bP.1, Int.ediv_le_of_le_mul (by omega) ?_⟩
        have := Int.mul_le_mul (a := 99999 * 3999960) (c := 99999 * 3999960) (b := 1) (d := csP p s x1 l) (Int.le_refl _) (by omega) (by decide) (by decide)
        omega
      have hw := wi_bd (v := (s (280 + 6 * x1 + l) * csC s x1 l).tdiv (csP p s x1 l)) (a := lo p x1) (b := hi p x1) (by omega)
      refine ⟨by omega, c7_within (by omega) (by omega) (by omega) (c7_trusted Rl h0 h1 h2 h3 (by omega) (by omega) ?_)⟩
      have e9 : (if tuU p s x1 l 311 = 0 then wi ((s (280 + 6 * x1 + l) * csC s x1 l).tdiv (csP p s x1 l)) (lo p x1) (hi p x1) else s (280 + 6 * x1 + l) + ((wi ((s (280 + 6 * x1 + l) * csC s x1 l).tdiv (csP p s x1 l)) (lo p x1) (hi p x1) - s (280 + 6 * x1 + l)) * csE (tuU p s x1 l) x1 l) / (csE (tuU p s x1 l) x1 l + tuU p s x1 l 311)) = nv p s x1 l := by
        unfold nv
        rw [hE, tuU_off hp h0 h1 l (j := 311) (by omega)]
      rw [e9]
      refine c7_relates hp Rl.2.2.2.j Rl.es h0 h1 h2 h3 ?_
      rw [rs_rs, tuU_do hp hs h0 h1 h2 h3 z z3]
      refine ⟨by omega, fun z4 => ?_, fun z4 => ?_⟩
      · rw [tcL, if_pos ⟨z, z3, z4⟩] at ih
        exact ih
      · rw [tcL, if_neg (fun a => a.2.2 z4)] at ih
        exact ih
end REF4
