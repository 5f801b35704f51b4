/-! the reference's own methods, in words of p and s: asking -/
def Rf (h : mH) (p : Pn) (s : Int → Int) : Prop := (h 32 0 7 = nf p ∧ h 32 0 1 = bd p ∧ h 32 0 3 = sd p ∧ ∀ f, 0 ≤ f → f < nf p → h 35 0 f = lv p f ∧ h 36 0 f = lo p f ∧ h 37 0 f = hi p f) ∧ h 41 0 = s ∧ WfP p ∧ WfS p s
theorem Rf.fr {h h2 : mH} {p : Pn} {s : Int → Int} (R : Rf h p s) (e : ∀ r, r = 32 ∨ r = 35 ∨ r = 36 ∨ r = 37 ∨ r = 41 → h2 r 0 = h r 0) : Rf h2 p s := by
  obtain ⟨⟨h1, h3, h4, h5⟩, h6, h7⟩ := R
  have e32 := e 32 (by decide); have e35 := e 35 (by decide); have e36 := e 36 (by decide); have e37 := e 37 (by decide); have e41 := e 41 (by decide)
  refine ⟨⟨by rw [e32]; exact h1, by rw [e32]; exact h3, by rw [e32]; exact h4, fun f h0 h1 => by rw [e35, e36, e37]; exact h5 f h0 h1⟩, by rw [e41]; exact h6, h7⟩
/-- another row s -/
theorem Rf.to {h h2 : mH} {p : Pn} {s s2 : Int → Int} (R : Rf h p s) (e : ∀ r, r = 32 ∨ r = 35 ∨ r = 36 ∨ r = 37 → h2 r 0 = h r 0) (e2 : h2 41 0 = s2) (hs : WfS p s2) : Rf h2 p s2 := by
  obtain ⟨⟨h1, h3, h4, h5⟩, h6, h7, h8⟩ := R
  have e32 := e 32 (by decide); have e35 := e 35 (by decide); have e36 := e 36 (by decide); have e37 := e 37 (by decide)
  exact ⟨⟨by rw [e32]; exact h1, by rw [e32]; exact h3, by rw [e32]; exact h4, fun f h0 h1 => by rw [e35, e36, e37]; exact h5 f h0 h1⟩, e2, h7, hs⟩
section REF1
variable {h : mH} {p : Pn} {s : Int → Int}
theorem Rf.n4 (R : Rf h p s) : 0 ≤ nf p ∧ nf p ≤ 4 := R.2.2.1.1.1
theorem Rf.m40 (R : Rf h p s) : 0 ≤ s 310 ∧ s 310 ≤ 40 := R.2.2.2.1.1
theorem Rf.es (R : Rf h p s) : h 41 0 = s := R.2.1
theorem Rf.pf (R : Rf h p s) {f : Int} (h0 : 0 ≤ f) (h1 : f < nf p) : (1 ≤ lv p f ∧ lv p f ≤ 6) ∧ (1 ≤ lo p f ∧ lo p f ≤ 10000) ∧ (10000 ≤ hi p f ∧ hi p f ≤ 99999) := R.2.2.1.2 f h0 h1
theorem Rf.e35 (R : Rf h p s) {f : Int} (h0 : 0 ≤ f) (h1 : f < nf p) : h 35 0 f = lv p f := (R.1.2.2.2 f h0 h1).1
theorem Rf.e36 (R : Rf h p s) {f : Int} (h0 : 0 ≤ f) (h1 : f < nf p) : h 36 0 f = lo p f := (R.1.2.2.2 f h0 h1).2.1
theorem Rf.e37 (R : Rf h p s) {f : Int} (h0 : 0 ≤ f) (h1 : f < nf p) : h 37 0 f = hi p f := (R.1.2.2.2 f h0 h1).2.2
theorem c7_factors (R : Rf h p s) {K : Int → mH → Prop} (k : K (nf p) h) : OkI M7_factors [mR 30 0] h K := s7_factors (by rw [R.1.1]; exact k)
theorem c7_many (R : Rf h p s) {K : Int → mH → Prop} (k : K (s 310) h) : OkI M7_many [mR 30 0] h K := s7_many (by rw [R.es]; exact k)
theorem c7_isFactor (R : Rf h p s) {K : Int → mH → Prop} {x1 : Int} (hx : mInR x1) (kt : 0 ≤ x1 → x1 < nf p → K 1 h) (kf : ¬ (0 ≤ x1 ∧ x1 < nf p) → K 0 h) : OkI M7_isFactor [mR 30 0, mI x1] h K := by
  have h1 := R.n4
  exact s7_isFactor ⟨hx, fun z => kf (by omega), fun z => c7_factors R ⟨⟨hx, by omega⟩, fun z2 => kf (by omega), fun z2 => kt (by omega) (by omega)⟩⟩
theorem c7_isLevel (R : Rf h p s) {K : Int → mH → Prop} {x1 x2 : Int} (hx : mInR x1) (hx2 : mInR x2) (kt : 0 ≤ x1 → x1 < nf p → 0 ≤ x2 → x2 < lv p x1 → K 1 h) (kf : ¬ ((0 ≤ x1 ∧ x1 < nf p) ∧ 0 ≤ x2 ∧ x2 < lv p x1) → K 0 h) : OkI M7_isLevel [mR 30 0, mI x1, mI x2] h K := by
  have h1 := R.n4
  refine s7_isLevel (c7_isFactor R hx (fun z1 z2 => ⟨by decide, fun z => absurd z (by decide), fun _ => ⟨hx2, fun z => kf (by omega), fun z => ⟨by omega, ?_⟩⟩⟩) (fun z => ⟨by decide, fun _ => kf (fun w => z w.1), fun w => absurd rfl w⟩))
  have h2 := R.pf z1 z2
  rw [R.e35 z1 z2]
  exact ⟨⟨hx2, by omega⟩, fun z3 => kf (by omega), fun z3 => kt z1 z2 (by omega) (by omega)⟩
theorem c7_isRisk (R : Rf h p s) {K : Int → mH → Prop} {x1 : Int} (hx : mInR x1) (kt : 0 ≤ x1 → x1 < s 310 → K 1 h) (kf : ¬ (0 ≤ x1 ∧ x1 < s 310) → K 0 h) : OkI M7_isRisk [mR 30 0, mI x1] h K := by
  have h1 := R.m40
  exact s7_isRisk ⟨hx, fun z => kf (by omega), fun z => c7_many R ⟨⟨hx, by omega⟩, fun z2 => kf (by omega), fun z2 => kt (by omega) (by omega)⟩⟩
theorem c7_isJoined (e : h 41 0 = s) {K : Int → mH → Prop} {x1 x2 : Int} (h1 : 0 ≤ x1 ∧ x1 < 4) (h2 : mInR x2) (kt : 0 ≤ x2 → jb (s (304 + x1)) x2 = true → K 1 h) (kf : (0 ≤ x2 → jb (s (304 + x1)) x2 = false) → K 0 h) : OkI M7_isJoined [mR 30 0, mI x1, mI x2] h K := by
  refine s7_isJoined ⟨h2, fun z => kf (by omega), fun z => ⟨by omega, mAnd_R _ _, fun z2 => kf (fun _ => ?_), fun z2 => kt (by omega) ?_⟩⟩
  · rw [e] at z2; unfold jb; exact decide_eq_false z2
  · rw [e] at z2; unfold jb; exact decide_eq_true z2
theorem c7_firstOf (e : h 41 0 = s) {K : Int → mH → Prop} {x1 x2 : Int} (h1 : 0 ≤ x1 ∧ x1 < 4) (h2 : 0 ≤ x2 ∧ x2 < 32) (k : K (fs s x1 x2) h) : OkI M7_firstOf [mR 30 0, mI x1, mI x2] h K := by
  refine s7_firstOf ?_
  have key : ∀ n : Nat, (n : Int) < 32 → fs s x1 n = fs s x1 x2 → A7_firstOf_2 K x1 x2 n h := by
    intro n
    induction n with
    | zero =>
      intro _ hn
      refine s7_firstOf_2 (c7_isJoined e h1 (by decide) (fun z => absurd z (by decide)) (fun _ => ⟨by decide, fun _ => ?_, fun w => absurd rfl w⟩))
      rw [← hn] at k
      exact k
    | succ n ih =>
      intro hl hn
      have e3 : ((n + 1 : Nat) : Int) = (n : Int) + 1 := by omega
      rw [e3] at hn hl ⊢
      rw [fs_s (by omega)] at hn
      refine s7_firstOf_2 (c7_isJoined e h1 (by omega) (fun z1 z2 => ⟨by decide, fun z => absurd z (by decide), fun _ => ?_⟩) (fun z => ⟨by decide, fun _ => ?_, fun w => absurd rfl w⟩))
      · rw [show (n : Int) + 1 - 1 = n by omega] at z2
        rw [if_pos z2] at hn
        rw [show (n : Int) + 1 + (-1) = n by omega]
        exact ih (by omega) hn
      · have z := z (by omega)
        rw [show (n : Int) + 1 - 1 = n by omega] at z
        rw [z] at hn
        simp only [Bool.false_eq_true, if_false] at hn
        rw [hn]
        exact k
  have := key x2.toNat (by omega) (by rw [Int.toNat_of_nonneg h2.1])
  rwa [Int.toNat_of_nonneg h2.1] at this
/-- no level beyond the last but one is joined -/
def JOk (p : Pn) (s : Int → Int) : Prop := ∀ f, 0 ≤ f → f < nf p → ∀ l, 0 ≤ l → l < 32 → jb (s (304 + f)) l = true → l + 1 < lv p f
theorem WfS.j (hs : WfS p s) : JOk p s := fun f h0 h1 l h2 h3 h4 => (hs.2.2.2 f h0 h1 l h2 h3 h4).1
theorem laF_bd (hp : WfP p) (hj : JOk p s) {f : Int} (h0 : 0 ≤ f) (h1 : f < nf p) : ∀ (n : Nat) (l : Int), 0 ≤ l → l < lv p f → l ≤ laF s f n l ∧ laF s f n l < lv p f
  | 0, l, h2, h3 => ⟨Int.le_refl _, h3⟩
  | n + 1, l, h2, h3 => by
    unfold laF
    have hl := (hp.2 f h0 h1).1
    by_cases e : jb (s (304 + f)) l = true
    · rw [if_pos e]
      have := laF_bd hp hj h0 h1 n (l + 1) (by omega) (hj f h0 h1 l h2 (by omega) e)
      omega
    · rw [if_neg e]; omega
theorem la_bd (hp : WfP p) (hj : JOk p s) {f : Int} (h0 : 0 ≤ f) (h1 : f < nf p) {l : Int} (h2 : 0 ≤ l) (h3 : l < lv p f) : l ≤ la s f l ∧ la s f l < lv p f := laF_bd hp hj h0 h1 6 l h2 h3
theorem laF_more {s : Int → Int} {f : Int} (hj : ∀ l, 0 ≤ l → l < 32 → jb (s (304 + f)) l = true → l + 1 < 6) : ∀ (n : Nat) (l : Int), 0 ≤ l → l < 6 → 6 ≤ l + n → laF s f (n + 1) l = laF s f n l
  | 0, l, h0, h1, h2 => by omega
  | n + 1, l, h0, h1, h2 => by
    show (if jb (s (304 + f)) l then laF s f (n + 1) (l + 1) else l) = (if jb (s (304 + f)) l then laF s f n (l + 1) else l)
    by_cases e : jb (s (304 + f)) l = true
    · have := hj l h0 (by omega) e
      rw [if_pos e, if_pos e, laF_more hj n (l + 1) (by omega) (by omega) (by omega)]
    · rw [if_neg e, if_neg e]
/-- joined: the last one of the next -/
theorem la_s (hp : WfP p) (hj : JOk p s) {f : Int} (h0 : 0 ≤ f) (h1 : f < nf p) {l : Int} (h2 : 0 ≤ l) (h3 : l < lv p f) : la s f l = if jb (s (304 + f)) l then la s f (l + 1) else l := by
  have hl := (hp.2 f h0 h1).1
  show (if jb (s (304 + f)) l then laF s f 5 (l + 1) else l) = (if jb (s (304 + f)) l then laF s f 6 (l + 1) else l)
  by_cases e : jb (s (304 + f)) l = true
  · have := hj f h0 h1 l h2 (by omega) e
    rw [if_pos e, if_pos e, laF_more (fun l a b c => by have := hj f h0 h1 l a b c; omega) 5 (l + 1) (by omega) (by omega) (by omega)]
  · rw [if_neg e, if_neg e]
theorem c7_lastOf (hp : WfP p) (hj : JOk p s) (e : h 41 0 = s) {K : Int → mH → Prop} {x1 x2 : Int} (h1 : 0 ≤ x1 ∧ x1 < nf p) (h2 : 0 ≤ x2 ∧ x2 < lv p x1) (k : K (la s x1 x2) h) : OkI M7_lastOf [mR 30 0, mI x1, mI x2] h K := by
  have h4 := hp.1.1
  have hl := (hp.2 x1 h1.1 h1.2).1
  refine s7_lastOf ?_
  have key : ∀ n : Nat, ∀ l : Int, 0 ≤ l → l < lv p x1 → lv p x1 ≤ l + n → la s x1 l = la s x1 x2 → A7_lastOf_2 K x1 x2 l h := by
    intro n
    induction n with
    | zero => intro l h5 h6 h7; omega
    | succ n ih =>
      intro l h5 h6 h7 h8
      rw [la_s hp hj h1.1 h1.2 h5 h6] at h8
      refine s7_lastOf_2 (c7_isJoined e (by omega) (by omega) (fun z1 z2 => ⟨by decide, fun z => absurd z (by decide), fun _ => ?_⟩) (fun z => ⟨by decide, fun _ => ?_, fun w => absurd rfl w⟩))
      · rw [if_pos z2] at h8
        exact ih (l + 1) (by omega) (hj x1 h1.1 h1.2 l h5 (by omega) z2) (by omega) h8
      · have z := z (by omega)
        rw [z] at h8
        simp only [Bool.false_eq_true, if_false] at h8
        rw [h8]
        exact k
  exact key 7 x2 h2.1 h2.2 (by omega) rfl
theorem c7_relativityOf (e : h 41 0 = s) {K : Int → mH → Prop} {x1 x2 : Int} (h1 : 0 ≤ x1 ∧ x1 < 4) (h2 : 0 ≤ x2 ∧ x2 < 6) (k : K (s (280 + 6 * x1 + x2)) h) : OkI M7_relativityOf [mR 30 0, mI x1, mI x2] h K := s7_relativityOf ⟨by omega, by rw [e]; exact k⟩
theorem rel_bd (hp : WfP p) (hs : WfS p s) {f l : Int} (h0 : 0 ≤ f) (h1 : f < nf p) (h2 : 0 ≤ l) (h3 : l < lv p f) : 1 ≤ s (280 + 6 * f + l) ∧ s (280 + 6 * f + l) ≤ 99999 := by
  have := hs.2.2.1 f h0 h1 l h2 h3
  have := hp.2 f h0 h1
  omega
/-- premiums, by the levels of a risk or by those that are laid -/
theorem c7_premiumBehind (R : Rf h p s) {K : Int → mH → Prop} {x1 x2 x3 : Int} {g : Int → Int} (he : 0 ≤ x1 ∧ x1 ≤ 99) (hn : 0 ≤ x3 ∧ x3 ≤ nf p) (hg : ∀ f, 0 ≤ f → f < nf p → 0 ≤ g f ∧ g f < lv p f) (hx : (0 ≤ x2 ∧ x2 ≤ 300 ∧ ∀ f, 0 ≤ f → f < nf p → g f = s (x2 + f)) ∨ (x2 = -1 ∧ ∀ f, 0 ≤ f → f < nf p → g f = h 45 0 f)) (k : K (bh s x1 g x3) h) : OkJ M7_premiumBehind [mR 30 0, mI x1, mI x2, mI x3] h K := by
  have hb := R.2.2.2.1.2.1
  have h4 := R.n4
  refine s7_premiumBehind ⟨by omega, by rw [R.es]; omega, ?_⟩
  rw [R.es]
  refine upI (P := fun f => A7_premiumBehind_17 K x1 x2 x3 (bh s x1 g f) f h) (n := x3) ?_ (fun f h0 h1 ih => ?_) 0 (by omega) (by omega)
  · exact s7_premiumBehind_17 ⟨by omega, fun _ => k, fun z => absurd (Int.le_refl _) z⟩
  · have hgf := hg f h0 (by omega)
    have hlv := (R.pf h0 (by omega)).1
    have hr := rel_bd R.2.2.1 R.2.2.2 h0 (show f < nf p by omega) hgf.1 hgf.2
    have hbh := bh_bd R.2.2.1 R.2.2.2 he hg (n := f) h0 (by omega)
    have hm := mulb (x := bh s x1 g f) (y := s (280 + 6 * f + g f)) hbh (B := 99999) (by omega)
    rw [bh_s h0] at ih
    refine s7_premiumBehind_17 ⟨by omega, fun z => by omega, fun _ => ⟨by omega, fun z => ⟨by omega, ?_⟩, fun z => ⟨by omega, ?_⟩⟩⟩
    · rcases hx with ⟨a, b, c⟩ | ⟨a, b⟩
      · rw [R.es, ← c f h0 (by omega)]
        exact c7_relativityOf R.es (by omega) (by omega) ⟨by omega, by omega, ih⟩
      · exact absurd a z
    · rcases hx with ⟨a, b, c⟩ | ⟨a, b⟩
      · omega
      · rw [← b f h0 (by omega)]
        exact c7_relativityOf R.es (by omega) (by omega) ⟨by omega, by omega, ih⟩
theorem c7_premiumBy (R : Rf h p s) {K : Int → mH → Prop} {x1 x2 : Int} {g : Int → Int} (he : 0 ≤ x1 ∧ x1 ≤ 99) (hg : ∀ f, 0 ≤ f → f < nf p → 0 ≤ g f ∧ g f < lv p f) (hx : (0 ≤ x2 ∧ x2 ≤ 300 ∧ ∀ f, 0 ≤ f → f < nf p → g f = s (x2 + f)) ∨ (x2 = -1 ∧ ∀ f, 0 ≤ f → f < nf p → g f = h 45 0 f)) (k : K (prm s (nf p) x1 g) h) : OkJ M7_premiumBy [mR 30 0, mI x1, mI x2] h K := by
  have h4 := R.n4
  have h5 := R.2.2.2.1
  have hbh := bh_bd R.2.2.1 R.2.2.2 he hg (n := nf p) h4.1 (Int.le_refl _)
  have hm := mulb (x := bh s x1 g (nf p)) (y := s 313) hbh (B := 500) h5.2.2.2.2.2
  have h6 := h5.2.2.2.2.1
  have h7 := h5.2.2.2.2.2
  unfold prm at k
  refine s7_premiumBy (c7_factors R (c7_premiumBehind R he ⟨h4.1, Int.le_refl _⟩ hg hx ?_))
  rw [R.es]
  refine ⟨⟨by omega, by omega⟩, fun z => ?_, fun z => ⟨by omega, by omega, ?_⟩⟩
  · rw [if_pos z] at k; exact k
  · rw [if_neg z] at k; exact k
theorem Rf.lev (R : Rf h p s) {r : Int} (h0 : 0 ≤ r) (h1 : r < s 310) (f : Int) (h2 : 0 ≤ f) (h3 : f < nf p) : 0 ≤ s (7 * r + 3 + f) ∧ s (7 * r + 3 + f) < lv p f := by
  have h4 := R.n4
  have := (R.2.2.2.2.1 r h0 h1).2.2.2 f h2 (by omega)
  exact ⟨this.1, this.2.1 h3⟩
theorem c7_premiumOf (R : Rf h p s) {K : Int → mH → Prop} {x1 : Int} (h0 : 0 ≤ x1) (h1 : x1 < s 310) (k : K (pr p s x1) h) : OkJ M7_premiumOf [mR 30 0, mI x1] h K := by
  have h4 := R.m40
  have h5 := (R.2.2.2.2.1 x1 h0 h1).1
  refine s7_premiumOf ⟨by omega, ?_⟩
  rw [R.es]
  exact c7_premiumBy R (g := fun f => s (7 * x1 + 3 + f)) (by omega) (R.lev h0 h1) (Or.inl ⟨by omega, by omega, fun f _ _ => rfl⟩) k
theorem c7_isOf (R : Rf h p s) {K : Int → mH → Prop} {x1 x2 x3 : Int} (h0 : 0 ≤ x1) (h1 : x1 < s 310) (h2 : 0 ≤ x2) (h3 : x2 < nf p) (h4 : 0 ≤ x3) (h5 : x3 < lv p x2) (kt : fs s x2 (s (7 * x1 + 3 + x2)) = fs s x2 x3 → K 1 h) (kf : ¬ fs s x2 (s (7 * x1 + 3 + x2)) = fs s x2 x3 → K 0 h) : OkI M7_isOf [mR 30 0, mI x1, mI x2, mI x3] h K := by
  have h6 := R.n4
  have h7 := R.m40
  have h8 := (R.pf h2 h3).1
  have h9 := R.lev h0 h1 x2 h2 h3
  refine s7_isOf ⟨by omega, ?_⟩
  rw [R.es]
  refine c7_firstOf R.es (by omega) (by omega) (c7_firstOf R.es (by omega) (by omega) ⟨⟨?_, ?_⟩, kf, kt⟩)
  · have := fs_le (s := s) (f := x2) h9.1; omega
  · have := fs_le (s := s) (f := x2) h4; omega
theorem c7_risksOf (R : Rf h p s) {K : Int → mH → Prop} {x1 x2 : Int} (h0 : 0 ≤ x1) (h1 : x1 < nf p) (h2 : 0 ≤ x2) (h3 : x2 < lv p x1) (k : K (csR s x1 x2) h) : OkI M7_risksOf [mR 30 0, mI x1, mI x2] h K := by
  have h4 := R.m40
  refine s7_risksOf (upI (P := fun r => A7_risksOf_5 K x1 x2 (sm (co s x1 x2 (fun _ => 1)) r) r h) (n := s 310) ?_ (fun r h5 h6 ih => ?_) 0 (by omega) h4.1)
  · exact s7_risksOf_5 (c7_many R ⟨by omega, fun _ => k, fun z => absurd (Int.le_refl _) z⟩)
  · rw [sm_s _ h5] at ih
    refine s7_risksOf_5 (c7_many R ⟨by omega, fun z => by omega, fun _ => c7_isOf R h5 h6 h0 h1 h2 h3 (fun z => ⟨by decide, fun w => absurd w (by decide), fun _ => ?_⟩) (fun z => ⟨by decide, fun _ => ?_, fun w => absurd rfl w⟩)⟩)
    · rw [co, if_pos z] at ih; exact ih
    · rw [co, if_neg z] at ih; exact ih
theorem c7_sumOf (R : Rf h p s) {K : Int → mH → Prop} {x1 x2 x3 : Int} (h0 : 0 ≤ x1) (h1 : x1 < nf p) (h2 : 0 ≤ x2) (h3 : x2 < lv p x1) (hx : x3 = 0 ∨ x3 = 1 ∨ x3 = 2) (k : K (cs s x1 x2 (fun r => s (7 * r + x3))) h) : OkJ M7_sumOf [mR 30 0, mI x1, mI x2, mI x3] h K := by
  have h4 := R.m40
  refine s7_sumOf (upI (P := fun r => A7_sumOf_6 K x1 x2 x3 (sm (co s x1 x2 (fun r => s (7 * r + x3))) r) r h) (n := s 310) ?_ (fun r h5 h6 ih => ?_) 0 (by omega) h4.1)
  · exact s7_sumOf_6 (c7_many R ⟨by omega, fun _ => k, fun z => absurd (Int.le_refl _) z⟩)
  · rw [sm_s _ h5] at ih
    have hr := R.2.2.2.2.1 r h5 h6
    refine s7_sumOf_6 (c7_many R ⟨by omega, fun z => by omega, fun _ => c7_isOf R h5 h6 h0 h1 h2 h3 (fun z => ⟨by decide, fun w => absurd w (by decide), fun _ => ⟨by omega, ?_⟩⟩) (fun z => ⟨by decide, fun _ => ?_, fun w => absurd rfl w⟩)⟩)
    · rw [co, if_pos z] at ih
      rw [R.es]
      refine ⟨?_, ih⟩
      rcases hx with rfl | rfl | rfl
      · have := hr.1; omega
      · have := hr.2.1; omega
      · have := hr.2.2.1; omega
    · rw [co, if_neg z, Int.add_zero] at ih; exact ih
theorem c7_premiumsOf (R : Rf h p s) {K : Int → mH → Prop} {x1 x2 : Int} (h0 : 0 ≤ x1) (h1 : x1 < nf p) (h2 : 0 ≤ x2) (h3 : x2 < lv p x1) (k : K (csP p s x1 x2) h) : OkJ M7_premiumsOf [mR 30 0, mI x1, mI x2] h K := by
  have h4 := R.m40
  refine s7_premiumsOf (upI (P := fun r => A7_premiumsOf_5 K x1 x2 (sm (co s x1 x2 (pr p s)) r) r h) (n := s 310) ?_ (fun r h5 h6 ih => ?_) 0 (by omega) h4.1)
  · exact s7_premiumsOf_5 (c7_many R ⟨by omega, fun _ => k, fun z => absurd (Int.le_refl _) z⟩)
  · rw [sm_s _ h5] at ih
    refine s7_premiumsOf_5 (c7_many R ⟨by omega, fun z => by omega, fun _ => c7_isOf R h5 h6 h0 h1 h2 h3 (fun z => ⟨by decide, fun w => absurd w (by decide), fun _ => ?_⟩) (fun z => ⟨by decide, fun _ => ?_, fun w => absurd rfl w⟩)⟩)
    · rw [co, if_pos z] at ih
      exact c7_premiumOf R h5 h6 ih
    · rw [co, if_neg z, Int.add_zero] at ih; exact ih
theorem c7_without {K : Int → mH → Prop} {x0 : Int} (hx : mInL x0) (k : K (mAbs x0) h) : OkJ M7_without [mJ x0] h K := by
  unfold mAbs at k
  refine s7_without ⟨hx, fun z => ?_, fun z => ?_⟩
  · rw [if_neg (by omega)] at k; exact k
  · rw [if_pos (by omega)] at k; exact k
theorem c7_paid (R : Rf h p s) {K : Int → mH → Prop} (k : K (sm (pr p s) (s 310)) h) : OkJ M7_paid [mR 30 0] h K := by
  have h4 := R.m40
  refine s7_paid (upI (P := fun r => A7_paid_4 K (sm (pr p s) r) r h) (n := s 310) ?_ (fun r h5 h6 ih => ?_) 0 (by omega) h4.1)
  · exact s7_paid_4 (c7_many R ⟨by omega, fun _ => k, fun z => absurd (Int.le_refl _) z⟩)
  · rw [sm_s _ h5] at ih
    exact s7_paid_4 (c7_many R ⟨by omega, fun z => by omega, fun _ => c7_premiumOf R h5 h6 ih⟩)
theorem c7_allOf (R : Rf h p s) {K : Int → mH → Prop} {x1 : Int} (hx : x1 = 0 ∨ x1 = 1 ∨ x1 = 2) (k : K (sm (fun r => s (7 * r + x1)) (s 310)) h) : OkJ M7_allOf [mR 30 0, mI x1] h K := by
  have h4 := R.m40
  refine s7_allOf (upI (P := fun r => A7_allOf_5 K x1 (sm (fun r => s (7 * r + x1)) r) r h) (n := s 310) ?_ (fun r h5 h6 ih => ?_) 0 (by omega) h4.1)
  · exact s7_allOf_5 (c7_many R ⟨by omega, fun _ => k, fun z => absurd (Int.le_refl _) z⟩)
  · rw [sm_s _ h5] at ih
    have hr := R.2.2.2.2.1 r h5 h6
    refine s7_allOf_5 (c7_many R ⟨by omega, fun z => by omega, fun _ => ⟨by omega, ?_⟩⟩)
    rw [R.es]
    refine ⟨?_, ih⟩
    rcases hx with rfl | rfl | rfl
    · have := hr.1; omega
    · have := hr.2.1; omega
    · have := hr.2.2.1; omega
end REF1
