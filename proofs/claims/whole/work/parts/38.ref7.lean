/-! the state in one, and what a call makes of the row -/
abbrev Sg : Type := Pn × (Int → Int) × (Int → Int) × (Int × (Int → Int)) × (Int × (Int → Int → Int)) × (Int × (Int → Int)) × (Int × Int)
def gP (σ : Sg) : Pn := σ.1
def gN (σ : Sg) : Int → Int := σ.2.1
def gS (σ : Sg) : Int → Int := σ.2.2.1
def gI (σ : Sg) : Int × (Int → Int) := σ.2.2.2.1
def gU (σ : Sg) : Int × (Int → Int → Int) := σ.2.2.2.2.1
def gT (σ : Sg) : Int × (Int → Int) := σ.2.2.2.2.2.1
def gF (σ : Sg) : Int × Int := σ.2.2.2.2.2.2
def RG (h : mH) (σ : Sg) : Prop := RS h (gP σ) (gN σ) (gS σ) (gI σ).1 (gI σ).2 (gU σ).1 (gU σ).2 (gT σ).1 (gT σ).2 (gF σ).1 (gF σ).2
/-- another row -/
def toS (σ : Sg) (s : Int → Int) : Sg := (gP σ, gN σ, s, gI σ, gU σ, gT σ, gF σ)
/-- the row is remembered -/
def pus (σ : Sg) : Sg := (gP σ, gN σ, gS σ, gI σ, (puU (gU σ).1, puP (gU σ).1 (gU σ).2 (gS σ)), gT σ, gF σ)
def toU (σ : Sg) (u : Int) : Sg := (gP σ, gN σ, gS σ, gI σ, (u, (gU σ).2), gT σ, gF σ)
def toI (σ : Sg) (fi : Int) (im : Int → Int) : Sg := (gP σ, gN σ, gS σ, (fi, im), gU σ, gT σ, gF σ)
theorem RG.fr {h h2 : mH} {σ : Sg} (R : RG h σ) (e : ∀ r, r = 31 ∨ r = 32 ∨ r = 34 ∨ r = 35 ∨ r = 36 ∨ r = 37 ∨ r = 41 ∨ r = 43 ∨ r = 44 → h2 r 0 = h r 0) (e2 : ∀ k, k = 2 ∨ k = 20 ∨ k = 21 ∨ k = 26 ∨ k = 27 → h2 30 0 k = h 30 0 k) : RG h2 σ := RS.fr R e e2
theorem RG.th {h : mH} {σ : Sg} (R : RG h σ) (v : Int) : RG (rs h 30 0 (up (h 30 0) 0 v)) σ := RS.th R v
theorem frC_th (h : mH) (f : Int → Int) : FrC h (rs h 30 0 f) := FrC.rs (by decide)
theorem RG.row {h : mH} {σ : Sg} (R : RG h σ) {s2 : Int → Int} (hs : WfS (gP σ) s2) : RG (rs h 41 0 s2) (toS σ s2) := RS.row R hs
theorem c7_push {h : mH} {σ : Sg} (R : RG h σ) {K : mH → Prop} (k : ∀ h2, RG h2 (pus σ) → FrC h h2 → K h2) : OkV M7_remembers [mR 30 0] h K := c7_remembers R (fun h2 a b _ => k h2 a b)
theorem c7_push2 {h : mH} {σ : Sg} (R : RG h σ) {K : mH → Prop} (k : ∀ h2, RG h2 (pus σ) → FrC h h2 → (∀ r, r ≠ 44 → r ≠ 30 → h2 r 0 = h r 0) → K h2) : OkV M7_remembers [mR 30 0] h K := c7_remembers R k
section WFS
variable {p : Pn} {s : Int → Int}
theorem WfS.upN (hp : WfP p) (hs : WfS p s) {k v : Int} (hk : 308 ≤ k ∧ k ≠ 310) (hN : WfN (up s k v)) : WfS p (up s k v) := by
  have hn := hp.1.1
  have hm := hs.1.1
  refine ⟨hN, fun r a b => ?_, fun g a b k c d => ?_, fun g a b k c d z => ?_⟩
  · rw [up_ne (by omega)] at b
    have := hs.2.1 r a b
    unfold WfR at this ⊢
    rw [up_ne (by omega), up_ne (by omega), up_ne (by omega)]
    refine ⟨this.1, this.2.1, this.2.2.1, fun q c d => ?_⟩
    rw [up_ne (by omega)]
    exact this.2.2.2 q c d
  · have := hp.2 g a b
    rw [up_ne (by omega)]
    exact hs.2.2.1 g a b k c d
  · have := hp.2 g a b
    rw [up_ne (by omega)] at z
    have h3 := hs.2.2.2 g a b k c d z
    rw [up_ne (by omega), up_ne (by omega)]
    exact h3
theorem WfS.cap (hp : WfP p) (hs : WfS p s) {v : Int} (hv : 0 ≤ v ∧ v ≤ 999) : WfS p (up s 309 v) := by
  have h := hs.1
  refine hs.upN hp (by decide) ?_
  unfold WfN
  rw [up_same, up_ne (by decide), up_ne (by decide), up_ne (by decide), up_ne (by decide), up_ne (by decide)]
  exact ⟨h.1, h.2.1, hv, h.2.2.2⟩
theorem WfS.trust (hp : WfP p) (hs : WfS p s) {v : Int} (hv : 0 ≤ v ∧ v ≤ 999) : WfS p (up s 311 v) := by
  have h := hs.1
  refine hs.upN hp (by decide) ?_
  unfold WfN
  rw [up_same, up_ne (by decide), up_ne (by decide), up_ne (by decide), up_ne (by decide), up_ne (by decide)]
  exact ⟨h.1, h.2.1, h.2.2.1, hv, h.2.2.2.2⟩
theorem WfS.size (hp : WfP p) (hs : WfS p s) {v : Int} (hv : 1 ≤ v ∧ v ≤ 99) : WfS p (up s 312 v) := by
  have h := hs.1
  refine hs.upN hp (by decide) ?_
  unfold WfN
  rw [up_same, up_ne (by decide), up_ne (by decide), up_ne (by decide), up_ne (by decide), up_ne (by decide)]
  exact ⟨h.1, h.2.1, h.2.2.1, h.2.2.2.1, hv, h.2.2.2.2.2⟩
theorem WfS.off (hp : WfP p) (hs : WfS p s) {v : Int} (hv : 0 ≤ v ∧ v ≤ 500) : WfS p (up s 313 v) := by
  have h := hs.1
  refine hs.upN hp (by decide) ?_
  unfold WfN
  rw [up_same, up_ne (by decide), up_ne (by decide), up_ne (by decide), up_ne (by decide), up_ne (by decide)]
  exact ⟨h.1, h.2.1, h.2.2.1, h.2.2.2.1, h.2.2.2.2.1, hv⟩
/-- a place among the risks: the rest stays -/
theorem WfS.lowpart (hp : WfP p) (hs : WfS p s) {t : Int → Int} (he : ∀ j, 280 ≤ j → j < 314 → j ≠ 310 → t j = s j) (hm : 0 ≤ t 310 ∧ t 310 ≤ 40) (hr : ∀ r, 0 ≤ r → r < t 310 → WfR p t r) : WfS p t := by
  have hn := hp.1.1
  have h := hs.1
  refine ⟨?_, hr, fun g a b k c d => ?_, fun g a b k c d z => ?_⟩
  · unfold WfN
    rw [he 308 (by omega) (by omega) (by omega), he 309 (by omega) (by omega) (by omega), he 311 (by omega) (by omega) (by omega), he 312 (by omega) (by omega) (by omega), he 313 (by omega) (by omega) (by omega)]
    exact ⟨hm, h.2⟩
  · have := hp.2 g a b
    rw [he _ (by omega) (by omega) (by omega)]
    exact hs.2.2.1 g a b k c d
  · have := hp.2 g a b
    rw [he (304 + g) (by omega) (by omega) (by omega)] at z
    have h3 := hs.2.2.2 g a b k c d z
    rw [he (280 + 6 * g + k) (by omega) (by omega) (by omega), he (280 + 6 * g + (k + 1)) (by omega) (by omega) (by omega)]
    exact h3
theorem WfS.claim (hp : WfP p) (hs : WfS p s) {r v : Int} (h0 : 0 ≤ r) (h1 : r < s 310) (hv : 0 ≤ v ∧ v ≤ 99999) : WfS p (up s (7 * r + 1) v) := by
  have hm := hs.1.1
  have e : up s (7 * r + 1) v 310 = s 310 := up_ne (by omega)
  refine hs.lowpart hp (fun j a b c => up_ne (by omega)) (by rw [e]; exact hm) (fun q a b => ?_)
  rw [e] at b
  have h2 := hs.2.1 q a b
  unfold WfR at h2 ⊢
  rw [up_ne (j := 7 * q + 0) (by omega), up_ne (j := 7 * q + 2) (by omega)]
  refine ⟨h2.1, ?_, h2.2.2.1, fun f c d => ?_⟩
  · by_cases c : q = r
    · rw [c, up_same]; exact hv
    · rw [up_ne (by omega)]; exact h2.2.1
  · rw [up_ne (by omega)]
    exact h2.2.2.2 f c d
/-- a risk goes -/
def goS (s : Int → Int) (r : Int) : Int → Int := fun j => if j = 310 then s 310 - 1 else if 7 * r ≤ j ∧ j < 7 * (s 310 - 1) then s (j + 7) else if 7 * (s 310 - 1) ≤ j ∧ j < 7 * s 310 then 0 else s j
theorem goS_wf (hp : WfP p) (hs : WfS p s) {r : Int} (h0 : 0 ≤ r) (h1 : r < s 310) : WfS p (goS s r) := by
  have hm := hs.1.1
  have e : goS s r 310 = s 310 - 1 := by unfold goS; rw [if_pos rfl]
  refine hs.lowpart hp (fun j a b c => by unfold goS; rw [if_neg c, if_neg (by omega), if_neg (by omega)]) (by rw [e]; omega) (fun q a b => ?_)
  rw [e] at b
  by_cases c : q < r
  · have h2 := hs.2.1 q a (by omega)
    have ee : ∀ j, 0 ≤ j → j < 7 → goS s r (7 * q + j) = s (7 * q + j) := by
      intro j d g
      unfold goS
      rw [if_neg (by omega), if_neg (by omega), if_neg (by omega)]
    unfold WfR at h2 ⊢
    rw [ee 0 (by omega) (by omega), ee 1 (by omega) (by omega), ee 2 (by omega) (by omega)]
    refine ⟨h2.1, h2.2.1, h2.2.2.1, fun f d g => ?_⟩
    have := ee (3 + f) (by omega) (by omega)
    rw [← Int.add_assoc] at this
    rw [this]
    exact h2.2.2.2 f d g
  · have h2 := hs.2.1 (q + 1) (by omega) (by omega)
    have ee : ∀ j, 0 ≤ j → j < 7 → goS s r (7 * q + j) = s (7 * (q + 1) + j) := by
      intro j d g
      unfold goS
      rw [if_neg (by omega), if_pos (by omega), show 7 * q + j + 7 = 7 * (q + 1) + j by omega]
    unfold WfR at h2 ⊢
    rw [ee 0 (by omega) (by omega), ee 1 (by omega) (by omega), ee 2 (by omega) (by omega)]
    refine ⟨h2.1, h2.2.1, h2.2.2.1, fun f d g => ?_⟩
    have := ee (3 + f) (by omega) (by omega)
    rw [← Int.add_assoc, ← Int.add_assoc] at this
    rw [this]
    exact h2.2.2.2 f d g
/-- a level joined with the next one, or parted from it -/
def joX (s : Int → Int) (f l : Int) : Int → Int := up s (304 + f) (mXor (s (304 + f)) (mShl 1 l))
def joS (s : Int → Int) (f l : Int) : Int → Int := if jb (s (304 + f)) l then joX s f l else reS (joX s f l) f l (s (280 + 6 * f + l))
theorem joX_jb {f l k : Int} (hl : 0 ≤ l ∧ l < 32) (hk : 0 ≤ k ∧ k < 32) : jb (joX s f l (304 + f)) k = (jb (s (304 + f)) k ^^ decide (k = l)) := by
  unfold joX
  rw [up_same, jb_xor hl.1 hl.2 hk.1 hk.2]
theorem joX_J (hp : WfP p) (hs : JOk p s) {f l : Int} (h0 : 0 ≤ f) (h1 : f < nf p) (h2 : 0 ≤ l) (h3 : l + 1 < lv p f) : JOk p (joX s f l) := by
  have hn := hp.1.1
  have hb := hp.2 f h0 h1
  intro g a b k c d z
  by_cases e : g = f
  · subst e
    rw [joX_jb (by omega) ⟨c, d⟩] at z
    by_cases e2 : k = l
    · rw [e2]; exact h3
    · rw [decide_eq_false e2, Bool.xor_false] at z
      exact hs g a b k c d z
  · unfold joX at z
    rw [up_ne (by omega)] at z
    exact hs g a b k c d z
theorem joS_wf (hp : WfP p) (hs : WfS p s) {f l : Int} (h0 : 0 ≤ f) (h1 : f < nf p) (h2 : 0 ≤ l) (h3 : l + 1 < lv p f) : WfS p (joS s f l) := by
  have hn := hp.1.1
  have hm := hs.1.1
  have hb := hp.2 f h0 h1
  have hJ := joX_J hp hs.j h0 h1 h2 h3
  have hlb := la_bd hp hJ h0 h1 h2 (by omega)
  have hfb := fs_le (s := joX s f l) (f := f) h2
  have hxo : ∀ j, j ≠ 304 + f → joX s f l j = s j := fun j hj => by unfold joX; exact up_ne hj
  have off : ∀ j, (j < 280 ∨ 304 ≤ j) → j ≠ 304 + f → joS s f l j = s j := by
    intro j hj hj2
    unfold joS
    split
    · exact hxo j hj2
    · unfold reS
      rw [if_neg (by omega)]
      exact hxo j hj2
  have e304 : joS s f l (304 + f) = joX s f l (304 + f) := by
    unfold joS
    split
    · rfl
    · unfold reS
      rw [if_neg (by omega)]
  have rel : ∀ g k, 0 ≤ g → g < nf p → 0 ≤ k → k < lv p g → joS s f l (280 + 6 * g + k) = if g = f ∧ jb (s (304 + f)) l = false ∧ fs (joX s f l) f k = fs (joX s f l) f l then s (280 + 6 * f + l) else s (280 + 6 * g + k) := by
    intro g k a b c d
    have hg := hp.2 g a b
    unfold joS
    cases hz : jb (s (304 + f)) l
    · simp only [Bool.false_eq_true, if_false]
      unfold reS
      by_cases e : g = f
      · subst e
        have hi := la_iff hp hJ (k := k) h0 h1 h2 (by omega) c
        by_cases e2 : fs (joX s g l) g k = fs (joX s g l) g l
        · have := hi.mp e2
          rw [if_pos (by omega), if_pos ⟨rfl, trivial, e2⟩]
        · have := fun z => e2 (hi.mpr z)
          rw [if_neg (by omega), if_neg (fun z => e2 z.2.2), hxo _ (by omega)]
      · rw [if_neg (by omega), if_neg (fun z => e z.1), hxo _ (by omega)]
    · simp only [if_true]
      rw [if_neg (fun z => by cases z.2.1), hxo _ (by omega)]
  have e310 := off 310 (by omega) (by omega)
  refine ⟨?_, fun r a b => ?_, fun g a b k c d => ?_, fun g a b k c d z => ?_⟩
  · unfold WfN
    rw [e310, off 308 (by omega) (by omega), off 309 (by omega) (by omega), off 311 (by omega) (by omega), off 312 (by omega) (by omega), off 313 (by omega) (by omega)]
    exact hs.1
  · rw [e310] at b
    have := hs.2.1 r a b
    unfold WfR at this ⊢
    rw [off (7 * r + 0) (by omega) (by omega), off (7 * r + 1) (by omega) (by omega), off (7 * r + 2) (by omega) (by omega)]
    refine ⟨this.1, this.2.1, this.2.2.1, fun q c d => ?_⟩
    rw [off (7 * r + 3 + q) (by omega) (by omega)]
    exact this.2.2.2 q c d
  · rw [rel g k a b c d]
    split
    · rename_i e
      rw [e.1]
      exact hs.2.2.1 f h0 h1 l h2 (by omega)
    · exact hs.2.2.1 g a b k c d
  · have hg := hp.2 g a b
    by_cases e : g = f
    · subst e
      rw [e304] at z
      have h5 := hJ g a b k c d z
      refine ⟨h5, ?_⟩
      rw [rel g k a b c (by omega), rel g (k + 1) a b (by omega) h5, fs_s c, if_pos z]
      by_cases e2 : jb (s (304 + g)) l = false ∧ fs (joX s g l) g k = fs (joX s g l) g l
      · rw [if_pos ⟨rfl, e2⟩, if_pos ⟨rfl, e2⟩]
      · rw [if_neg (fun w => e2 w.2), if_neg (fun w => e2 w.2)]
        have hkl : k ≠ l := by
          rintro rfl
          rw [joX_jb (by omega) ⟨c, d⟩, decide_eq_true rfl, Bool.xor_true] at z
          exact e2 ⟨by simpa using z, rfl⟩
        rw [joX_jb (by omega) ⟨c, d⟩, decide_eq_false hkl, Bool.xor_false] at z
        exact (hs.2.2.2 g a b k c d z).2
    · rw [off (304 + g) (by omega) (by omega)] at z
      have h5 := hs.2.2.2 g a b k c d z
      refine ⟨h5.1, ?_⟩
      rw [rel g k a b c (by omega), rel g (k + 1) a b (by omega) h5.1, if_neg (fun w => e w.1), if_neg (fun w => e w.1)]
      exact h5.2
/-- a relativity laid on a level's own -/
theorem reS_wf (hp : WfP p) (hs : WfS p s) {f l v : Int} (h0 : 0 ≤ f) (h1 : f < nf p) (h2 : 0 ≤ l) (h3 : l < lv p f) (hv : lo p f ≤ v ∧ v ≤ hi p f) : WfS p (reS s f l v) := by
  have hn := hp.1.1
  have hm := hs.1.1
  have hb := hp.2 f h0 h1
  have hlb := la_bd hp hs.j h0 h1 h2 h3
  have hfb := fs_le (s := s) (f := f) h2
  have off : ∀ {j : Int}, j < 280 ∨ 304 ≤ j → reS s f l v j = s j := fun hj => by unfold reS; rw [if_neg (by omega)]
  have rel : ∀ g k, 0 ≤ g → g < nf p → 0 ≤ k → k < lv p g → reS s f l v (280 + 6 * g + k) = if g = f ∧ fs s f k = fs s f l then v else s (280 + 6 * g + k) := by
    intro g k a b c d
    have hg := hp.2 g a b
    unfold reS
    by_cases e : g = f
    · subst e
      have hi := la_iff hp hs.j (k := k) h0 h1 h2 h3 c
      by_cases e2 : fs s g k = fs s g l
      · have := hi.mp e2
        rw [if_pos (by omega), if_pos ⟨rfl, e2⟩]
      · have := fun z => e2 (hi.mpr z)
        rw [if_neg (by omega), if_neg (fun z => e2 z.2)]
    · rw [if_neg (by omega), if_neg (fun z => e z.1)]
  have e310 := off (j := 310) (by omega)
  refine ⟨?_, fun r a b => ?_, fun g a b k c d => ?_, fun g a b k c d z => ?_⟩
  · unfold WfN
    rw [e310, off (j := 308) (by omega), off (j := 309) (by omega), off (j := 311) (by omega), off (j := 312) (by omega), off (j := 313) (by omega)]
    exact hs.1
  · rw [e310] at b
    have := hs.2.1 r a b
    unfold WfR at this ⊢
    rw [off (j := 7 * r + 0) (by omega), off (j := 7 * r + 1) (by omega), off (j := 7 * r + 2) (by omega)]
    refine ⟨this.1, this.2.1, this.2.2.1, fun q c d => ?_⟩
    rw [off (j := 7 * r + 3 + q) (by omega)]
    exact this.2.2.2 q c d
  · rw [rel g k a b c d]
    split
    · rename_i e
      rw [e.1]
      exact hv
    · exact hs.2.2.1 g a b k c d
  · rw [off (j := 304 + g) (by omega)] at z
    have h5 := hs.2.2.2 g a b k c d z
    refine ⟨h5.1, ?_⟩
    rw [rel g k a b c (by omega), rel g (k + 1) a b (by omega) h5.1]
    by_cases e : g = f
    · subst e
      rw [fs_s c, if_pos z]
      by_cases e2 : fs s g k = fs s g l
      · rw [if_pos ⟨rfl, e2⟩, if_pos ⟨rfl, e2⟩]
      · rw [if_neg (fun w => e2 w.2), if_neg (fun w => e2 w.2)]
        exact h5.2
    · rw [if_neg (fun w => e w.1), if_neg (fun w => e w.1)]
      exact h5.2
/-- a level of a number, three bits each -/
def dg (x f : Int) : Int := x / 8 ^ f.toNat % 8
def okd (p : Pn) (x f : Int) : Prop := (f < nf p → dg x f < lv p f) ∧ (nf p ≤ f → dg x f = 0)
def vld (p : Pn) (x : Int) : Prop := 0 ≤ x ∧ (∀ f, 0 ≤ f → f < 4 → okd p x f) ∧ x / 4096 = 0
/-- a risk comes -/
def adS (s : Int → Int) (e c o x : Int) : Int → Int := fun j => if j = 310 then s 310 + 1 else if j = 7 * s 310 + 0 then e else if j = 7 * s 310 + 1 then c else if j = 7 * s 310 + 2 then o else if 7 * s 310 + 3 ≤ j ∧ j < 7 * s 310 + 7 then dg x (j - (7 * s 310 + 3)) else s j
theorem dg_bd (x f : Int) : 0 ≤ dg x f ∧ dg x f < 8 := by unfold dg; omega
theorem adS_wf (hp : WfP p) (hs : WfS p s) {e c o x : Int} (h40 : s 310 < 40) (he : 1 ≤ e ∧ e ≤ 99) (hc : 0 ≤ c ∧ c ≤ 99999) (ho : 1 ≤ o ∧ o ≤ 99999) (hx : vld p x) : WfS p (adS s e c o x) := by
  have hm := hs.1.1
  have e310 : adS s e c o x 310 = s 310 + 1 := by unfold adS; rw [if_pos rfl]
  refine hs.lowpart hp (fun j a b d => by unfold adS; rw [if_neg d, if_neg (by omega), if_neg (by omega), if_neg (by omega), if_neg (by omega)]) (by rw [e310]; omega) (fun q a b => ?_)
  rw [e310] at b
  by_cases d : q = s 310
  · subst d
    unfold WfR
    have a0 : adS s e c o x (7 * s 310 + 0) = e := by unfold adS; rw [if_neg (by omega), if_pos rfl]
    have a1 : adS s e c o x (7 * s 310 + 1) = c := by unfold adS; rw [if_neg (by omega), if_neg (by omega), if_pos rfl]
    have a2 : adS s e c o x (7 * s 310 + 2) = o := by unfold adS; rw [if_neg (by omega), if_neg (by omega), if_neg (by omega), if_pos rfl]
    rw [a0, a1, a2]
    refine ⟨he, hc, ho, fun f g i => ?_⟩
    have a3 : adS s e c o x (7 * s 310 + 3 + f) = dg x f := by unfold adS; rw [if_neg (by omega), if_neg (by omega), if_neg (by omega), if_neg (by omega), if_pos (by omega), show 7 * s 310 + 3 + f - (7 * s 310 + 3) = f by omega]
    rw [a3]
    exact ⟨(dg_bd x f).1, hx.2.1 f g i⟩
  · have h2 := hs.2.1 q a (by omega)
    have ee : ∀ j, 0 ≤ j → j < 7 → adS s e c o x (7 * q + j) = s (7 * q + j) := by
      intro j d g
      unfold adS
      rw [if_neg (by omega), if_neg (by omega), if_neg (by omega), if_neg (by omega), if_neg (by omega)]
    unfold WfR at h2 ⊢
    rw [ee 0 (by omega) (by omega), ee 1 (by omega) (by omega), ee 2 (by omega) (by omega)]
    refine ⟨h2.1, h2.2.1, h2.2.2.1, fun f d g => ?_⟩
    have := ee (3 + f) (by omega) (by omega)
    rw [← Int.add_assoc] at this
    rw [this]
    exact h2.2.2.2 f d g
end WFS
