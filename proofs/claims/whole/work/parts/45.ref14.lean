/-! the reference: swings, fits, what would be without -/
section REF14
variable {p : Pn} {s : Int → Int} {h : mH}
theorem lev_wf (hp : WfP p) (hs : WfS p s) {r f l : Int} (h0 : 0 ≤ r) (h1 : r < s 310) (h2 : 0 ≤ f) (h3 : f < nf p) (h4 : 0 ≤ l) (h5 : l < lv p f) : WfS p (up s (7 * r + 3 + f) l) := by
  have hm := hs.1.1
  have hn := hp.1.1
  have e : up s (7 * r + 3 + f) l 310 = s 310 := up_ne (by omega)
  refine hs.lowpart hp (fun j a b c => up_ne (by omega)) (by rw [e]; exact hm) (fun q a b => ?_)
  rw [e] at b
  have hr := hs.2.1 q a b
  unfold WfR at hr ⊢
  rw [up_ne (j := 7 * q + 0) (by omega), up_ne (j := 7 * q + 1) (by omega), up_ne (j := 7 * q + 2) (by omega)]
  refine ⟨hr.1, hr.2.1, hr.2.2.1, fun g c d => ?_⟩
  by_cases x : 7 * q + 3 + g = 7 * r + 3 + f
  · have : g = f := by omega
    rw [x, up_same, this]
    exact ⟨h4, fun _ => h5, fun z => by omega⟩
  · rw [up_ne x]
    exact hr.2.2.2 g c d
def swV (p : Pn) (s : Int → Int) (r f l : Int) : Int := pr p (up s (7 * r + 3 + f) l) r
def swG (p : Pn) (s : Int → Int) (r f w l : Int) (a : Int × Int) : Int × Int := if a.1 = -1 ∨ (if w = 0 then a.2 < swV p s r f l else swV p s r f l < a.2) then (l, swV p s r f l) else a
def sw (p : Pn) (s : Int → Int) (r f w : Int) : Int := (fl (swG p s r f w) (-1, 0) (lv p f)).1
theorem swV_bd (hp : WfP p) (hs : WfS p s) {r f l : Int} (h0 : 0 ≤ r) (h1 : r < s 310) (h2 : 0 ≤ f) (h3 : f < nf p) (h4 : 0 ≤ l) (h5 : l < lv p f) : 0 ≤ swV p s r f l ∧ swV p s r f l ≤ 98999010000 := by
  have hm := hs.1.1
  have hn := hp.1.1
  refine pr_bd hp (lev_wf hp hs h0 h1 h2 h3 h4 h5) h0 ?_
  rw [up_ne (by omega)]
  exact h1
theorem swG_or (p : Pn) (s : Int → Int) (r f w l : Int) (a : Int × Int) : swG p s r f w l a = (l, swV p s r f l) ∨ swG p s r f w l a = a := by
  unfold swG
  by_cases c : (a.1 = -1 ∨ (if w = 0 then a.2 < swV p s r f l else swV p s r f l < a.2))
  · exact Or.inl (if_pos c)
  · exact Or.inr (if_neg c)
theorem c7_swing (R : Rf h p s) {K : Int → mH → Prop} {x1 x2 x3 : Int} (h0 : 0 ≤ x1) (h1 : x1 < s 310) (h2 : 0 ≤ x2) (h3 : x2 < nf p) (hx : 0 ≤ x3 ∧ x3 ≤ 1) (k : K (sw p s x1 x2 x3) h) : A7_swing_60 K x1 x2 x3 (7 * x1) (s (7 * x1 + 3 + x2)) (-1) 0 0 h := by
  have hp := R.2.2.1
  have hs := R.2.2.2
  have hm := R.m40
  have hn := R.n4
  have hb := R.pf h2 h3
  have key := upI (P := fun l => ∀ t : Int → Int, (∀ j, j ≠ 7 * x1 + 3 + x2 → t j = s j) → A7_swing_60 K x1 x2 x3 (7 * x1) (s (7 * x1 + 3 + x2)) (fl (swG p s x1 x2 x3) (-1, 0) l).1 (fl (swG p s x1 x2 x3) (-1, 0) l).2 l (rs h 41 0 t)) (n := lv p x2) (fun t ht => ?_) (fun l h5 h6 ih t ht => ?_) 0 (by omega) (by omega) (h 41 0) (fun j _ => by rw [R.es])
  · rw [rs_self] at key; exact key
  · refine s7_swing_60 ⟨by omega, ?_⟩
    rw [rs_r (by decide), R.e35 h2 h3]
    refine ⟨by omega, fun _ => ⟨by omega, ?_⟩, fun z => absurd (Int.le_refl _) z⟩
    rintro _ rfl
    have e : up t (7 * x1 + 3 + x2) (s (7 * x1 + 3 + x2)) = h 41 0 := by
      rw [R.es]
      funext j
      unfold up
      by_cases c : j = 7 * x1 + 3 + x2
      · rw [if_pos c, c]
      · rw [if_neg c]; exact ht j c
    rw [mSet_rs, rs_same, rs_rs, e, rs_self]
    exact k
  · have hbd : (fl (swG p s x1 x2 x3) (-1, 0) l).1 = -1 ∨ (0 ≤ (fl (swG p s x1 x2 x3) (-1, 0) l).1 ∧ (fl (swG p s x1 x2 x3) (-1, 0) l).1 ≤ 6) := fl_inv (fun a : Int × Int => a.1 = -1 ∨ (0 ≤ a.1 ∧ a.1 ≤ 6)) l (Or.inl rfl) (fun i b a c hb => by
      rcases swG_or p s x1 x2 x3 i b with e | e
      · rw [e]; right; show 0 ≤ i ∧ i ≤ 6; omega
      · rw [e]; exact hb) l h5 (Int.le_refl _)
    have hb2 : 0 ≤ (fl (swG p s x1 x2 x3) (-1, 0) l).2 ∧ (fl (swG p s x1 x2 x3) (-1, 0) l).2 ≤ 98999010000 := fl_inv (fun a : Int × Int => 0 ≤ a.2 ∧ a.2 ≤ 98999010000) l (by decide) (fun i b a c hb => by
      rcases swG_or p s x1 x2 x3 i b with e | e
      · rw [e]; exact swV_bd hp hs h0 h1 h2 h3 a (by omega)
      · rw [e]; exact hb) l h5 (Int.le_refl _)
    rw [fl_s _ _ h5] at ih
    revert ih hbd hb2
    generalize fl (swG p s x1 x2 x3) (-1, 0) l = a
    intro ih hbd hb2
    have et : up t (7 * x1 + 3 + x2) l = up s (7 * x1 + 3 + x2) l := by
      funext j
      unfold up
      by_cases c : j = 7 * x1 + 3 + x2
      · rw [if_pos c, if_pos c]
      · rw [if_neg c, if_neg c, ht j c]
    have hv := swV_bd hp hs h0 h1 h2 h3 h5 h6
    have hw := lev_wf hp hs h0 h1 h2 h3 h5 h6
    refine s7_swing_60 ⟨by omega, ?_⟩
    rw [rs_r (by decide), R.e35 h2 h3]
    refine ⟨by omega, fun z => by omega, fun _ => ⟨by omega, ?_⟩⟩
    rintro _ rfl
    rw [mSet_rs, rs_same, rs_rs, et]
    have ih2 := ih (up s (7 * x1 + 3 + x2) l) (fun j hj => up_ne hj)
    refine c7_premiumOf (R.row hw) h0 (by rw [up_ne (by omega)]; exact h1) ?_
    show (mInR a.1) ∧ _
    have yes : swG p s x1 x2 x3 l a = (l, swV p s x1 x2 l) → A7_swing_60 K x1 x2 x3 (7 * x1) (s (7 * x1 + 3 + x2)) l (swV p s x1 x2 l) (l + 1) (rs h 41 0 (up s (7 * x1 + 3 + x2) l)) := by
      intro e; rw [e] at ih2; exact ih2
    have no : swG p s x1 x2 x3 l a = a → A7_swing_60 K x1 x2 x3 (7 * x1) (s (7 * x1 + 3 + x2)) a.1 a.2 (l + 1) (rs h 41 0 (up s (7 * x1 + 3 + x2) l)) := by
      intro e; rw [e] at ih2; exact ih2
    refine ⟨by omega, fun z => yes (if_pos (Or.inl z)), fun z => ⟨by omega, fun z2 => ⟨⟨⟨by show -9223372036854775808 ≤ swV p s x1 x2 l; omega, by show swV p s x1 x2 l < 9223372036854775808; omega⟩, by omega⟩, fun z3 => yes (if_pos (Or.inr (by rw [if_neg z2]; exact z3))), fun z3 => no (if_neg (fun w => ?_))⟩, fun z2 => ⟨⟨⟨by show -9223372036854775808 ≤ swV p s x1 x2 l; omega, by show swV p s x1 x2 l < 9223372036854775808; omega⟩, by omega⟩, fun z3 => yes (if_pos (Or.inr (by rw [if_pos z2]; exact z3))), fun z3 => no (if_neg (fun w => ?_))⟩⟩⟩
    · rw [if_neg z2] at w
      rcases w with w | w
      · exact z w
      · exact z3 w
    · rw [if_pos z2] at w
      rcases w with w | w
      · exact z w
      · exact z3 w
theorem rn_1 (p : Pn) (b : Int) (s : Int → Int) : rn p b 1 s = rd p b s := rfl
theorem unb_bd (hp : WfP p) (s : Int → Int) : 0 ≤ unb p s ∧ unb p s ≤ 24 := by
  have hn := hp.1.1
  have := sm_bd (w := unF p s) (a := 0) (b := 6) hn.1 (fun f a b => by
    have hb := hp.2 f a b
    have := sm_bd (w := unL p s f) (a := 0) (b := 1) (n := lv p f) (by omega) (fun l _ _ => by unfold unL; split <;> decide)
    show 0 ≤ sm (unL p s f) (lv p f) ∧ sm (unL p s f) (lv p f) ≤ 6
    omega)
  unfold unb
  omega
def fiP (p : Pn) (s : Int → Int) (i : Int) : Bool := decide (unb p (rn p (-1) i s) = 0)
def fit (p : Pn) (s : Int → Int) (n : Int) : Int := ls (fiP p s) (n + 1)
theorem c7_fitted (R : Rf h p s) {K : Int → mH → Prop} {x1 : Int} (hx : 0 ≤ x1 ∧ x1 ≤ 100) (k : K (fit p s x1) (rs h 42 0 s)) : A7_fitted_26 K x1 (-2) 0 (rs h 42 0 s) := by
  have hp := R.2.2.1
  have hs := R.2.2.2
  have e42 : ∀ t : Int → Int, rs (rs h 42 0 s) 41 0 t 42 0 = s := fun t => by rw [rs_r (by decide), rs_same]
  have fin : ∀ x2 x3 : Int, ∀ t : Int → Int, mInR x2 → (0 ≤ x3 ∧ x3 ≤ 101) → (x1 < x3 ∨ ¬ x2 = -2) → K x2 (rs h 42 0 s) → A7_fitted_26 K x1 x2 x3 (rs (rs h 42 0 s) 41 0 t) := by
    intro x2 x3 t h2 h3 ho kk
    refine s7_fitted_26 ⟨by omega, fun _ => c7_comesBack (e42 t) ?_, fun z => ⟨h2, fun _ => c7_comesBack (e42 t) ?_, fun z2 => by omega⟩⟩
    · rw [aside_back R.es]; exact kk
    · rw [aside_back R.es]; exact kk
  have key := upI (P := fun i => (∀ j, 0 ≤ j → j < i → fiP p s j = false) → A7_fitted_26 K x1 (-2) i (rs (rs h 42 0 s) 41 0 (rn p (-1) i s))) (n := x1 + 1) (fun hj => ?_) (fun i h5 h6 ih hj => ?_) 0 (by omega) (by omega) (fun j a b => by omega)
  · rw [rn_0] at key
    have e : rs (rs h 42 0 s) 41 0 s = rs h 42 0 s := by have := aside_back R.es s; rw [rs_rs] at this; exact this
    rw [e] at key
    exact key
  · rw [show fit p s x1 = -2 from ls_no hj] at k
    exact fin _ _ _ (by decide) (by omega) (Or.inl (by omega)) k
  · have hw := rn_wf hp hs (-1) i
    have Q : Rf (rs (rs h 42 0 s) 41 0 (rn p (-1) i s)) p (rn p (-1) i s) := (R.as).row hw
    have hu := unb_bd hp (rn p (-1) i s)
    refine s7_fitted_26 ⟨by omega, fun z => by omega, fun _ => ⟨by decide, fun z => absurd rfl z, fun _ => c7_unbalancedNow Q ⟨by omega, fun z => c7_rounds Q (by decide) (by decide) ?_, fun z => ?_⟩⟩⟩
    · rw [rs_rs, rn_1, ← rn_s _ _ _ h5]
      refine ih (fun j a b => ?_)
      by_cases d : j = i
      · rw [d]; exact decide_eq_false z
      · exact hj j a (by omega)
    · refine fin _ _ _ (by omega) (by omega) (Or.inr (by omega)) ?_
      rw [show fit p s x1 = i from ls_yes h5 h6 (decide_eq_true z) hj] at k
      exact k
/-- a factor's relativities all 10000 -/
def alU (s : Int → Int) (f n : Int) : Int → Int := fun j => if 280 + 6 * f ≤ j ∧ j < 280 + 6 * f + n then 10000 else s j
def alS (p : Pn) (s : Int → Int) (f : Int) : Int → Int := alU s f (lv p f)
theorem alS_wf (hp : WfP p) (hs : WfS p s) {f : Int} (h0 : 0 ≤ f) (h1 : f < nf p) : WfS p (alS p s f) := by
  have hn := hp.1.1
  have hm := hs.1.1
  have hb := hp.2 f h0 h1
  have off : ∀ {j : Int}, j < 280 ∨ 304 ≤ j → alS p s f j = s j := fun hj => by unfold alS alU; rw [if_neg (by omega)]
  have rel : ∀ g k, 0 ≤ g → g < nf p → 0 ≤ k → k < lv p g → alS p s f (280 + 6 * g + k) = if g = f then 10000 else s (280 + 6 * g + k) := by
    intro g k a b c d
    have hg := hp.2 g a b
    unfold alS alU
    by_cases e : g = f
    · subst e; rw [if_pos (by omega), if_pos rfl]
    · rw [if_neg (by omega), if_neg e]
  have e310 := off (j := 310) (by omega)
  refine ⟨?_, fun r a b => ?_, fun g a b k c d => ?_, fun g a b k c d z => ?_⟩
  · unfold WfN
    rw [e310, off (j := 308) (by omega), off (j := 309) (by omega), off (j := 311) (by omega), off (j := 312) (by omega), off (j := 313) (by omega)]
    exact hs.1
  · rw [e310] at b
    have := hs.2.1 r a b
    unfold WfR at this ⊢
    rw [off (j := 7 * r + 0) (by omega), off (j := 7 * r + 1) (by omega), off (j := 7 * r + 2) (by omega)]
    refine ⟨this.1, this.2.1, this.2.2.1, fun q c d => ?_⟩
    rw [off (j := 7 * r + 3 + q) (by omega)]
    exact this.2.2.2 q c d
  · rw [rel g k a b c d]
    split
    · rename_i e
      have := hp.2 g a b
      omega
    · exact hs.2.2.1 g a b k c d
  · rw [off (j := 304 + g) (by omega)] at z
    have h5 := hs.2.2.2 g a b k c d z
    refine ⟨h5.1, ?_⟩
    rw [rel g k a b c (by omega), rel g (k + 1) a b (by omega) h5.1, h5.2]
def wf1 (p : Pn) (s : Int → Int) (f n : Int) : Int := mis p (rn p f n (alS p s f))
theorem c7_withoutFactor (R : Rf h p s) {K : Int → mH → Prop} {x1 x2 : Int} (h0 : 0 ≤ x1) (h1 : x1 < nf p) (hx : 0 ≤ x2 ∧ x2 ≤ 50) (k : K (wf1 p s x1 x2) (rs h 42 0 s)) : A7_withoutFactor_30 K x1 x2 0 (rs h 42 0 s) := by
  have hp := R.2.2.1
  have hs := R.2.2.2
  have hn := R.n4
  have hb := R.pf h0 h1
  have e35 : ∀ t : Int → Int, rs (rs h 42 0 s) 41 0 t 35 0 x1 = lv p x1 := fun t => by rw [rs_r (by decide), rs_r (by decide)]; exact R.e35 h0 h1
  have key := upI (P := fun l => A7_withoutFactor_30 K x1 x2 l (rs (rs h 42 0 s) 41 0 (alU s x1 l))) (n := lv p x1) ?_ (fun l h5 h6 ih => ?_) 0 (by omega) (by omega)
  · have e : alU s x1 0 = s := by
      funext j
      unfold alU
      rw [if_neg (by omega)]
    rw [e] at key
    have e2 : rs (rs h 42 0 s) 41 0 s = rs h 42 0 s := by have := aside_back R.es s; rw [rs_rs] at this; exact this
    rw [e2] at key
    exact key
  · have hw := alS_wf hp hs h0 h1
    have Q : Rf (rs (rs h 42 0 s) 41 0 (alS p s x1)) p (alS p s x1) := (R.as).row hw
    refine s7_withoutFactor_30 ⟨by omega, ?_⟩
    rw [e35]
    refine ⟨by omega, fun _ => c7_rounds Q (by omega) (by omega) ?_, fun z => absurd (Int.le_refl _) z⟩
    rw [rs_rs]
    refine c7_misfit ((R.as).row (rn_wf hp hw x1 x2)) (c7_comesBack (by rw [rs_r (by decide), rs_same]) ?_)
    rw [aside_back R.es]
    exact k
  · refine s7_withoutFactor_30 ⟨by omega, ?_⟩
    rw [e35]
    refine ⟨by omega, fun z => by omega, fun _ => ⟨by omega, ?_⟩⟩
    rintro _ rfl
    rw [mSet_rs, rs_same, rs_rs]
    have e : up (alU s x1 l) (280 + 6 * x1 + l) 10000 = alU s x1 (l + 1) := by
      funext j
      unfold up alU
      by_cases c : j = 280 + 6 * x1 + l
      · rw [if_pos c, if_pos (by omega)]
      · rw [if_neg c]
        by_cases d : 280 + 6 * x1 ≤ j ∧ j < 280 + 6 * x1 + l
        · rw [if_pos d, if_pos (by omega)]
        · rw [if_neg d, if_neg (by omega)]
    rw [e]
    exact ih
/-- the join that leaves the least misfit -/
def bjV (p : Pn) (s : Int → Int) (f n l : Int) : Int := mis p (rn p (-1) n (joS s f l))
def bjG (p : Pn) (s : Int → Int) (f n l : Int) (a : Int × Int) : Int × Int := if jb (s (304 + f)) l = false ∧ (a.1 = -2 ∨ bjV p s f n l < a.2) then (l, bjV p s f n l) else a
def bj (p : Pn) (s : Int → Int) (f n : Int) : Int := (fl (bjG p s f n) (-2, 0) (lv p f - 1)).1
theorem mis_bd (hp : WfP p) (hs : WfS p s) : 0 ≤ mis p s ∧ mis p s ≤ 95039049600000 := by
  have hn := hp.1.1
  have := sm_bd (w := miF p s) (a := 0) (b := 23759762400000) hn.1 (fun f a b => by
    have hb := hp.2 f a b
    have := sm_bd (w := miL p s f) (a := 0) (b := 3959960400000) (n := lv p f) (by omega) (fun l _ _ => by
      unfold miL
      split
      · exact dif_bd hp hs f l
      · decide)
    show 0 ≤ sm (miL p s f) (lv p f) ∧ sm (miL p s f) (lv p f) ≤ 23759762400000
    omega)
  unfold mis
  omega
theorem bjG_or (p : Pn) (s : Int → Int) (f n l : Int) (a : Int × Int) : (jb (s (304 + f)) l = false ∧ bjG p s f n l a = (l, bjV p s f n l)) ∨ bjG p s f n l a = a := by
  unfold bjG
  by_cases c : jb (s (304 + f)) l = false ∧ (a.1 = -2 ∨ bjV p s f n l < a.2)
  · exact Or.inl ⟨c.1, if_pos c⟩
  · exact Or.inr (if_neg c)
theorem c7_bestJoin (R : Rf h p s) {K : Int → mH → Prop} {x1 x2 : Int} (h0 : 0 ≤ x1) (h1 : x1 < nf p) (hx : 0 ≤ x2 ∧ x2 ≤ 50) (k : K (bj p s x1 x2) (rs h 42 0 s)) : A7_bestJoin_35 K x1 x2 (-2) 0 0 (rs h 42 0 s) := by
  have hp := R.2.2.1
  have hs := R.2.2.2
  have hn := R.n4
  have hb := R.pf h0 h1
  have Q := R.as
  have hV : ∀ l, 0 ≤ l → l + 1 < lv p x1 → 0 ≤ bjV p s x1 x2 l ∧ bjV p s x1 x2 l ≤ 95039049600000 := fun l a b => mis_bd hp (rn_wf hp (joS_wf hp hs h0 h1 a b) _ _)
  refine upI (P := fun l => A7_bestJoin_35 K x1 x2 (fl (bjG p s x1 x2) (-2, 0) l).1 (fl (bjG p s x1 x2) (-2, 0) l).2 l (rs h 42 0 s)) (n := lv p x1 - 1) ?_ (fun l h5 h6 ih => ?_) 0 (by omega) (by omega)
  · refine s7_bestJoin_35 ⟨by omega, ?_⟩
    rw [Q.e35 h0 h1]
    exact ⟨by omega, fun _ => k, fun z => absurd (Int.le_refl _) z⟩
  · have hbd : ((fl (bjG p s x1 x2) (-2, 0) l).1 = -2 ∨ (0 ≤ (fl (bjG p s x1 x2) (-2, 0) l).1 ∧ (fl (bjG p s x1 x2) (-2, 0) l).1 ≤ 6)) ∧ (0 ≤ (fl (bjG p s x1 x2) (-2, 0) l).2 ∧ (fl (bjG p s x1 x2) (-2, 0) l).2 ≤ 95039049600000) := fl_inv (fun a : Int × Int => (a.1 = -2 ∨ (0 ≤ a.1 ∧ a.1 ≤ 6)) ∧ (0 ≤ a.2 ∧ a.2 ≤ 95039049600000)) l ⟨Or.inl rfl, by decide⟩ (fun i b a c hb => by
      rcases bjG_or p s x1 x2 i b with ⟨-, e⟩ | e
      · rw [e]; exact ⟨Or.inr ⟨by show 0 ≤ i; omega, by show i ≤ 6; omega⟩, hV i a (by omega)⟩
      · rw [e]; exact hb) l h5 (Int.le_refl _)
    rw [fl_s _ _ h5] at ih
    revert ih hbd
    generalize fl (bjG p s x1 x2) (-2, 0) l = a
    intro ih hbd
    have hv := hV l h5 (by omega)
    have hw := joS_wf hp hs h0 h1 h5 (show l + 1 < lv p x1 by omega)
    have yes : bjG p s x1 x2 l a = (l, bjV p s x1 x2 l) → A7_bestJoin_35 K x1 x2 l (bjV p s x1 x2 l) (l + 1) (rs h 42 0 s) := by
      intro e; rw [e] at ih; exact ih
    have no : bjG p s x1 x2 l a = a → A7_bestJoin_35 K x1 x2 a.1 a.2 (l + 1) (rs h 42 0 s) := by
      intro e; rw [e] at ih; exact ih
    refine s7_bestJoin_35 ⟨by omega, ?_⟩
    rw [Q.e35 h0 h1]
    refine ⟨by omega, fun z => by omega, fun _ => c7_isJoined Q.es (by omega) (by omega) (fun _ z => ⟨by decide, fun w => absurd w (by decide), fun _ => no (if_neg (fun w => by rw [z] at w; cases w.1))⟩) (fun z => ⟨by decide, fun _ => c7_joins Q h0 h1 h5 (by omega) (c7_rounds (Q.row hw) (by omega) (by decide) ?_), fun w => absurd rfl w⟩)⟩
    rw [rs_rs]
    refine c7_misfit (Q.row (rn_wf hp hw _ _)) (c7_comesBack (by rw [rs_r (by decide), rs_same]) ?_)
    rw [aside_back R.es]
    show (mInR a.1) ∧ (a.1 = -2 → A7_bestJoin_35 K x1 x2 l (bjV p s x1 x2 l) (l + 1) (rs h 42 0 s)) ∧ (¬ a.1 = -2 → ((mInL (bjV p s x1 x2 l) ∧ mInL a.2) ∧ (bjV p s x1 x2 l < a.2 → A7_bestJoin_35 K x1 x2 l (bjV p s x1 x2 l) (l + 1) (rs h 42 0 s)) ∧ (¬ bjV p s x1 x2 l < a.2 → A7_bestJoin_35 K x1 x2 a.1 a.2 (l + 1) (rs h 42 0 s))))
    have zj := z h5
    exact ⟨by omega, fun w => yes (if_pos ⟨zj, Or.inl w⟩), fun w => ⟨by omega, fun w2 => yes (if_pos ⟨zj, Or.inr w2⟩), fun w2 => no (if_neg (fun w3 => w3.2.elim w w2))⟩⟩
end REF14
