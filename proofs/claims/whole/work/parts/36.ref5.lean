/-! rounds; the base brought to the whole; levelled -/
def rdN (p : Pn) (but : Int) : Nat → (Int → Int) → (Int → Int)
  | 0, s => s
  | n + 1, s => if (n : Int) = but then rdN p but n s else tuS p (rdN p but n s) n
def rdF (p : Pn) (but f : Int) (s : Int → Int) : Int → Int := rdN p but f.toNat s
/-- a round, one factor left out -/
def rd (p : Pn) (but : Int) (s : Int → Int) : Int → Int := rdF p but (nf p) s
def rnN (p : Pn) (but : Int) : Nat → (Int → Int) → (Int → Int)
  | 0, s => s
  | n + 1, s => rd p but (rnN p but n s)
/-- n rounds -/
def rn (p : Pn) (but n : Int) (s : Int → Int) : Int → Int := rnN p but n.toNat s
theorem rdF_0 (p : Pn) (but : Int) (s : Int → Int) : rdF p but 0 s = s := rfl
theorem rdF_s (p : Pn) (but : Int) (s : Int → Int) {f : Int} (h : 0 ≤ f) : rdF p but (f + 1) s = if f = but then rdF p but f s else tuS p (rdF p but f s) f := by
  unfold rdF
  rw [show (f + 1).toNat = f.toNat + 1 by omega]
  show (if (f.toNat : Int) = but then _ else tuS p _ (f.toNat : Int)) = _
  rw [Int.toNat_of_nonneg h]
theorem rn_0 (p : Pn) (but : Int) (s : Int → Int) : rn p but 0 s = s := rfl
theorem rn_s (p : Pn) (but : Int) (s : Int → Int) {n : Int} (h : 0 ≤ n) : rn p but (n + 1) s = rd p but (rn p but n s) := by
  unfold rn
  rw [show (n + 1).toNat = n.toNat + 1 by omega]
  rfl
theorem rdN_wf {p : Pn} {s : Int → Int} (hp : WfP p) (hs : WfS p s) (but : Int) : ∀ n : Nat, (n : Int) ≤ nf p → WfS p (rdN p but n s)
  | 0, _ => hs
  | n + 1, hn => by
    have ih := rdN_wf hp hs but n (by omega)
    unfold rdN
    split
    · exact ih
    · exact tuS_wf hp ih (by omega) (by omega)
theorem rdF_wf {p : Pn} {s : Int → Int} (hp : WfP p) (hs : WfS p s) (but : Int) {f : Int} (h0 : 0 ≤ f) (h1 : f ≤ nf p) : WfS p (rdF p but f s) := rdN_wf hp hs but _ (by omega)
theorem rnN_wf {p : Pn} {s : Int → Int} (hp : WfP p) (hs : WfS p s) (but : Int) : ∀ n : Nat, WfS p (rnN p but n s)
  | 0 => hs
  | n + 1 => rdF_wf hp (rnN_wf hp hs but n) but hp.1.1.1 (Int.le_refl _)
theorem rn_wf {p : Pn} {s : Int → Int} (hp : WfP p) (hs : WfS p s) (but n : Int) : WfS p (rn p but n s) := rnN_wf hp hs but _
/-- the base brought to the whole -/
def rbS (p : Pn) (s : Int → Int) : Int → Int := if sm (pr p s) (s 310) ≤ 0 then s else up s 308 (wi ((s 308 * sm (fun r => s (7 * r + 1)) (s 310)).tdiv (sm (pr p s) (s 310))) 1 99999)
/-- which one has the most exposure, of those up to level n -/
def bwN (s : Int → Int) (f : Int) : Nat → Int
  | 0 => 0
  | n + 1 => if fs s f ((n : Int) + 1) = (n : Int) + 1 ∧ csE s f (bwN s f n) < csE s f ((n : Int) + 1) then (n : Int) + 1 else bwN s f n
def bw (s : Int → Int) (f l : Int) : Int := bwN s f l.toNat
theorem bw_s {s : Int → Int} {f l : Int} (h : 0 ≤ l) : bw s f (l + 1) = if fs s f (l + 1) = l + 1 ∧ csE s f (bw s f l) < csE s f (l + 1) then l + 1 else bw s f l := by
  unfold bw
  rw [show (l + 1).toNat = l.toNat + 1 by omega]
  show (if fs s f ((l.toNat : Int) + 1) = (l.toNat : Int) + 1 ∧ csE s f (bwN s f l.toNat) < csE s f ((l.toNat : Int) + 1) then (l.toNat : Int) + 1 else bwN s f l.toNat) = _
  rw [Int.toNat_of_nonneg h]
theorem bwN_bd (s : Int → Int) (f : Int) : ∀ n : Nat, 0 ≤ bwN s f n ∧ bwN s f n ≤ n
  | 0 => by simp [bwN]
  | n + 1 => by
    have := bwN_bd s f n
    unfold bwN
    split <;> omega
theorem bw_bd {s : Int → Int} {f l : Int} (h : 0 ≤ l) : 0 ≤ bw s f l ∧ bw s f l ≤ l := by
  have := bwN_bd s f l.toNat
  unfold bw
  omega
theorem bwN_fs (s : Int → Int) (f : Int) : ∀ n : Nat, fs s f (bwN s f n) = bwN s f n
  | 0 => rfl
  | n + 1 => by
    unfold bwN
    split
    · rename_i h; exact h.1
    · exact bwN_fs s f n
theorem bw_fs (s : Int → Int) (f l : Int) : fs s f (bw s f l) = bw s f l := bwN_fs s f _
/-- a factor levelled by the relativity by: those that begin below l -/
def lvU (p : Pn) (s : Int → Int) (f by' l : Int) : Int → Int := fun j => if (280 + 6 * f ≤ j ∧ j < 280 + 6 * f + lv p f) ∧ fs s f (j - (280 + 6 * f)) < l then wi ((s j * 10000).tdiv by') (lo p f) (hi p f) else s j
/-- a factor levelled -/
def lvB (s : Int → Int) (r : Int) : Int := wi ((s 308 * r).tdiv 10000) 1 99999
def lvR (p : Pn) (s : Int → Int) (f : Int) : Int := s (280 + 6 * f + bw s f (lv p f - 1))
def lvF (p : Pn) (s : Int → Int) (f : Int) : Int → Int := lvU p (up s 308 (lvB s (lvR p s f))) f (lvR p s f) (lv p f)
def lvN (p : Pn) : Nat → (Int → Int) → (Int → Int)
  | 0, s => s
  | n + 1, s => lvF p (lvN p n s) n
def lvG (p : Pn) (f : Int) (s : Int → Int) : Int → Int := lvN p f.toNat s
/-- levelled -/
def lvS (p : Pn) (s : Int → Int) : Int → Int := if s 310 = 0 then s else lvG p (nf p) s
theorem lvG_s (p : Pn) (s : Int → Int) {f : Int} (h : 0 ≤ f) : lvG p (f + 1) s = lvF p (lvG p f s) f := by
  unfold lvG
  rw [show (f + 1).toNat = f.toNat + 1 by omega]
  show lvF p _ (f.toNat : Int) = _
  rw [Int.toNat_of_nonneg h]
section LVU
variable {p : Pn} {s : Int → Int} {f : Int}
theorem up308_wf (hs : WfS p s) {v : Int} (hv : 1 ≤ v ∧ v ≤ 99999) (hp : WfP p) : WfS p (up s 308 v) := by
  have hn := hp.1.1
  have hm := hs.1.1
  have off : ∀ {j : Int}, j ≠ 308 → up s 308 v j = s j := fun hj => up_ne hj
  have e310 := off (j := 310) (by omega)
  refine ⟨?_, fun r a b => ?_, fun g a b k c d => ?_, fun g a b k c d e => ?_⟩
  · unfold WfN
    rw [e310, up_same, off (j := 309) (by omega), off (j := 311) (by omega), off (j := 312) (by omega), off (j := 313) (by omega)]
    exact ⟨hs.1.1, hv, hs.1.2.2⟩
  · rw [e310] at b
    have := hs.2.1 r a b
    unfold WfR at this ⊢
    rw [off (j := 7 * r + 0) (by omega), off (j := 7 * r + 1) (by omega), off (j := 7 * r + 2) (by omega)]
    refine ⟨this.1, this.2.1, this.2.2.1, fun q c d => ?_⟩
    rw [off (j := 7 * r + 3 + q) (by omega)]
    exact this.2.2.2 q c d
  · have := hp.2 g a b
    rw [off (by omega)]
    exact hs.2.2.1 g a b k c d
  · have := hp.2 g a b
    rw [off (j := 304 + g) (by omega)] at e
    have h3 := hs.2.2.2 g a b k c d e
    rw [off (j := 280 + 6 * g + k) (by omega), off (j := 280 + 6 * g + (k + 1)) (by omega)]
    exact h3
theorem lvU_off (hp : WfP p) (h0 : 0 ≤ f) (h1 : f < nf p) (b l : Int) {j : Int} (hj : j < 280 ∨ 304 ≤ j) : lvU p s f b l j = s j := by
  have := hp.1.1
  have := hp.2 f h0 h1
  unfold lvU
  rw [if_neg (by omega)]
theorem lvU_g (hp : WfP p) (h0 : 0 ≤ f) (h1 : f < nf p) (b l : Int) {g k : Int} (hg : 0 ≤ g) (hg1 : g < nf p) (hk : 0 ≤ k) (hk1 : k < lv p g) (hne : g ≠ f) : lvU p s f b l (280 + 6 * g + k) = s (280 + 6 * g + k) := by
  have := hp.2 f h0 h1
  have := hp.2 g hg hg1
  unfold lvU
  rw [if_neg (by omega)]
theorem lvU_f (b l : Int) {k : Int} (hk : 0 ≤ k) (hk1 : k < lv p f) : lvU p s f b l (280 + 6 * f + k) = if fs s f k < l then wi ((s (280 + 6 * f + k) * 10000).tdiv b) (lo p f) (hi p f) else s (280 + 6 * f + k) := by
  unfold lvU
  rw [show 280 + 6 * f + k - (280 + 6 * f) = k by omega]
  by_cases c : fs s f k < l
  · rw [if_pos ⟨by omega, c⟩, if_pos c]
  · rw [if_neg (fun z => c z.2), if_neg c]
theorem lvU_wf (hp : WfP p) (hs : WfS p s) (h0 : 0 ≤ f) (h1 : f < nf p) (b l : Int) : WfS p (lvU p s f b l) := by
  have hn := hp.1.1
  have hm := hs.1.1
  have hb := hp.2 f h0 h1
  have off : ∀ {j : Int}, j < 280 ∨ 304 ≤ j → lvU p s f b l j = s j := fun hj => lvU_off hp h0 h1 b l hj
  have e310 := off (j := 310) (by omega)
  refine ⟨?_, fun r a b => ?_, fun g a b k c d => ?_, fun g a b k c d e => ?_⟩
  · unfold WfN
    rw [e310, off (j := 308) (by omega), off (j := 309) (by omega), off (j := 311) (by omega), off (j := 312) (by omega), off (j := 313) (by omega)]
    exact hs.1
  · rw [e310] at b
    have := hs.2.1 r a b
    unfold WfR at this ⊢
    rw [off (j := 7 * r + 0) (by omega), off (j := 7 * r + 1) (by omega), off (j := 7 * r + 2) (by omega)]
    refine ⟨this.1, this.2.1, this.2.2.1, fun q c d => ?_⟩
    rw [off (j := 7 * r + 3 + q) (by omega)]
    exact this.2.2.2 q c d
  · by_cases e : g = f
    · subst e
      rw [lvU_f _ l c d]
      split
      · exact wi_bd (by omega)
      · exact hs.2.2.1 g a b k c d
    · rw [lvU_g hp h0 h1 _ l a b c d e]
      exact hs.2.2.1 g a b k c d
  · rw [off (j := 304 + g) (by omega)] at e
    have h3 := hs.2.2.2 g a b k c d e
    refine ⟨h3.1, ?_⟩
    by_cases e2 : g = f
    · subst e2
      rw [lvU_f _ l c (by omega), lvU_f _ l (k := k + 1) (by omega) h3.1, fs_s c, if_pos e, h3.2]
    · rw [lvU_g hp h0 h1 _ l a b c (by omega) e2, lvU_g hp h0 h1 _ l a b (k := k + 1) (by omega) h3.1 e2]
      exact h3.2
theorem lvU_0 (b : Int) : lvU p s f b 0 = s := by
  funext j
  unfold lvU
  by_cases a : 280 + 6 * f ≤ j ∧ j < 280 + 6 * f + lv p f
  · have := fs_le (s := s) (f := f) (l := j - (280 + 6 * f)) (by omega)
    rw [if_neg (by omega)]
  · rw [if_neg (fun z => a z.1)]
theorem lvU_skip {b l : Int} (h : ¬ fs s f l = l) : lvU p s f b (l + 1) = lvU p s f b l := by
  funext j
  unfold lvU
  by_cases a : 280 + 6 * f ≤ j ∧ j < 280 + 6 * f + lv p f
  · by_cases b : fs s f (j - (280 + 6 * f)) < l
    · rw [if_pos ⟨a, by omega⟩, if_pos ⟨a, b⟩]
    · by_cases c : fs s f (j - (280 + 6 * f)) = l
      · exact absurd (by rw [← c]; exact fs_fs s f _) h
      · rw [if_neg (fun z => by omega), if_neg (fun z => b z.2)]
  · rw [if_neg (fun z => a z.1), if_neg (fun z => a z.1)]
theorem lvU_do (hp : WfP p) (hs : WfS p s) (h0 : 0 ≤ f) (h1 : f < nf p) {b l : Int} (h2 : 0 ≤ l) (h3 : l < lv p f) (hl : fs s f l = l) : reS (lvU p s f b l) f l (wi ((s (280 + 6 * f + l) * 10000).tdiv b) (lo p f) (hi p f)) = lvU p s f b (l + 1) := by
  have hn := hp.1.1
  have hlv := hp.2 f h0 h1
  have e2 := lvU_off (s := s) hp h0 h1 b l (j := 304 + f) (by omega)
  have hlb := la_bd hp hs.j h0 h1 h2 h3
  funext j
  unfold reS
  rw [fs_congr e2, la_congr e2, hl]
  by_cases a : 280 + 6 * f ≤ j ∧ j < 280 + 6 * f + lv p f
  · have hi := la_iff hp hs.j (k := j - (280 + 6 * f)) h0 h1 h2 h3 (by omega)
    rw [hl] at hi
    by_cases b : fs s f (j - (280 + 6 * f)) = l
    · have h5 := hi.mp b
      rw [if_pos (by omega)]
      unfold lvU
      rw [if_pos ⟨a, by omega⟩]
      have h6 := rel_fsI hp hs h0 h1 (l := j - (280 + 6 * f)) (by omega) (by omega)
      rw [b, show 280 + 6 * f + (j - (280 + 6 * f)) = j by omega] at h6
      rw [h6]
    · have := fun z => b (hi.mpr z)
      rw [if_neg (by omega)]
      unfold lvU
      by_cases c : fs s f (j - (280 + 6 * f)) < l
      · rw [if_pos ⟨a, c⟩, if_pos ⟨a, by omega⟩]
      · rw [if_neg (fun z => c z.2), if_neg (fun z => by omega)]
  · rw [if_neg (by omega)]
    unfold lvU
    rw [if_neg (fun z => a z.1), if_neg (fun z => a z.1)]
theorem lvB_bd (s : Int → Int) (r : Int) : 1 ≤ lvB s r ∧ lvB s r ≤ 99999 := wi_bd (by decide)
theorem lvF_wf (hp : WfP p) (hs : WfS p s) (h0 : 0 ≤ f) (h1 : f < nf p) : WfS p (lvF p s f) := lvU_wf hp (up308_wf hs (lvB_bd _ _) hp) h0 h1 _ _
theorem lvN_wf (hp : WfP p) (hs : WfS p s) : ∀ n : Nat, (n : Int) ≤ nf p → WfS p (lvN p n s)
  | 0, _ => hs
  | n + 1, hn => lvF_wf hp (lvN_wf hp hs n (by omega)) (by omega) (by omega)
theorem lvG_wf (hp : WfP p) (hs : WfS p s) {f : Int} (h0 : 0 ≤ f) (h1 : f ≤ nf p) : WfS p (lvG p f s) := lvN_wf hp hs _ (by omega)
theorem lvS_wf (hp : WfP p) (hs : WfS p s) : WfS p (lvS p s) := by
  unfold lvS
  split
  · exact hs
  · exact lvG_wf hp hs hp.1.1.1 (Int.le_refl _)
theorem rbS_wf (hp : WfP p) (hs : WfS p s) : WfS p (rbS p s) := by
  unfold rbS
  split
  · exact hs
  · exact up308_wf hs (wi_bd (by decide)) hp
end LVU
section REF5
variable {h : mH} {p : Pn} {s : Int → Int}
theorem c7_rounds (R : Rf h p s) {K : mH → Prop} {x1 x2 : Int} (h1 : 0 ≤ x1 ∧ x1 ≤ 100) (h2 : mInR x2) (k : K (rs h 41 0 (rn p x2 x1 s))) : OkV M7_rounds [mR 30 0, mI x1, mI x2] h K := by
  have hp := R.2.2.1
  have hs := R.2.2.2
  have h4 := R.n4
  have key := upI (P := fun q => A7_rounds_2 K x1 x2 q (rs h 41 0 (rn p x2 q s))) (n := x1) ?_ (fun q h5 h6 ih => ?_) 0 (by omega) h1.1
  · rw [rn_0, ← R.es, rs_self] at key
    exact s7_rounds key
  · exact s7_rounds_2 ⟨by omega, fun _ => k, fun z => absurd (Int.le_refl _) z⟩
  · refine s7_rounds_2 ⟨by omega, fun z => by omega, fun _ => ?_⟩
    rw [rn_s p x2 s h5] at ih
    have hq := rn_wf hp hs x2 q
    generalize rn p x2 q s = t at ih hq ⊢
    have key := upI (P := fun f => A7_rounds_10 K x1 x2 q f (rs h 41 0 (rdF p x2 f t))) (n := nf p) ?_ (fun f h7 h8 ih2 => ?_) 0 (by omega) h4.1
    · exact key
    · have Rq := R.row (rdF_wf hp hq x2 h4.1 (Int.le_refl _))
      exact s7_rounds_10 (c7_factors Rq ⟨by omega, fun _ => ih, fun z => absurd (Int.le_refl _) z⟩)
    · have Rq := R.row (rdF_wf hp hq x2 h7 (by omega))
      rw [rdF_s p x2 t h7] at ih2
      refine s7_rounds_10 (c7_factors Rq ⟨by omega, fun z => by omega, fun _ => ⟨by omega, fun z => ?_, fun z => c7_turns Rq h7 h8 ?_⟩⟩)
      · rw [if_pos z] at ih2; exact ih2
      · rw [if_neg z] at ih2; rw [rs_rs]; exact ih2
theorem sumC_bd (hs : WfS p s) : 0 ≤ sm (fun r => s (7 * r + 1)) (s 310) ∧ sm (fun r => s (7 * r + 1)) (s 310) ≤ 3999960 := by
  have h1 := hs.1.1
  have h2 := sm_bd (w := fun r => s (7 * r + 1)) (a := 0) (b := 99999) h1.1 (fun r a b => (hs.2.1 r a b).2.1)
  omega
theorem paid_bd (hp : WfP p) (hs : WfS p s) : 0 ≤ sm (pr p s) (s 310) ∧ sm (pr p s) (s 310) ≤ 3959960400000 := by
  have h1 := hs.1.1
  have h2 := sm_bd (w := pr p s) (a := 0) (b := 98999010000) h1.1 (fun r a b => pr_bd hp hs a b)
  omega
theorem c7_rebases (R : Rf h p s) {K : mH → Prop} (k : K (rs h 41 0 (rbS p s))) : OkV M7_rebases [mR 30 0] h K := by
  have hp := R.2.2.1
  have hs := R.2.2.2
  have hP := paid_bd hp hs
  have hC := sumC_bd hs
  have hb := hs.1.2.1
  have hm := mulb (x := s 308) (y := sm (fun r => s (7 * r + 1)) (s 310)) (A := 99999) (by omega) hC
  unfold rbS at k
  refine s7_rebases (c7_paid R ⟨by omega, fun z => ?_, fun z => ?_⟩)
  · rw [if_pos z, ← R.es, rs_self] at k; exact k
  · rw [if_neg z] at k
    rw [R.es]
    refine ⟨by omega, c7_allOf R (by decide) ⟨⟨by omega, by omega, by omega⟩, ?_⟩⟩
    have hq : 0 ≤ (s 308 * sm (fun r => s (7 * r + 1)) (s 310)).tdiv (sm (pr p s) (s 310)) ∧ (s 308 * sm (fun r => s (7 * r + 1)) (s 310)).tdiv (sm (pr p s) (s 310)) ≤ 99999 * 3999960 := by
      rw [tdivb hm.1]
      refine ⟨Int.ediv_nonneg hm.1 hP.1, Int.ediv_le_of_le_mul (by omega) ?_⟩
      have := Int.mul_le_mul (a := 99999 * 3999960) (c := 99999 * 3999960) (b := 1) (d := sm (pr p s) (s 310)) (Int.le_refl _) (by omega) (by decide) (by decide)
      omega
    refine c7_within (by omega) (by decide) (by decide) ?_
    rintro _ rfl
    rw [mSet_rs, R.es]
    exact k
theorem c7_levels (R : Rf h p s) {K : mH → Prop} (k : K (rs h 41 0 (lvS p s))) : OkV M7_levels [mR 30 0] h K := by
  have hp := R.2.2.1
  have hs := R.2.2.2
  have h4 := R.n4
  have hm := R.m40
  unfold lvS at k
  refine s7_levels (c7_many R ⟨by omega, fun z => ?_, fun z => ?_⟩)
  · rw [if_neg z] at k
    have key := upI (P := fun f => A7_levels_10 K f (rs h 41 0 (lvG p f s))) (n := nf p) ?_ (fun f h0 h1 ih => ?_) 0 (by omega) h4.1
    · rw [show lvG p 0 s = h 41 0 from R.es.symm, rs_self] at key
      exact key
    · have Rf1 := R.row (lvG_wf hp hs h4.1 (Int.le_refl _))
      exact s7_levels_10 (c7_factors Rf1 ⟨by omega, fun _ => k, fun z => absurd (Int.le_refl _) z⟩)
    · have hw := lvG_wf hp hs h0 (Int.le_of_lt h1)
      rw [lvG_s p s h0] at ih
      generalize lvG p f s = t at ih hw ⊢
      have Rt := R.row hw
      have hl := hp.2 f h0 h1
      refine s7_levels_10 (c7_factors Rt ⟨by omega, fun z => by omega, fun _ => ?_⟩)
      -- the one with the most exposure
      have key := upI (P := fun l => 1 ≤ l → A7_levels_22 K f (bw t f (l - 1)) l (rs h 41 0 t)) (n := lv p f) (fun _ => ?_) (fun l h2 h3 ih2 hl1 => ?_) 1 (by omega) (by omega) (Int.le_refl _)
      · exact key
      · have hbw := bw_bd (s := t) (f := f) (l := lv p f - 1) (by omega)
        refine s7_levels_22 ⟨by omega, ?_⟩
        rw [Rt.e35 h0 h1]
        refine ⟨by omega, fun _ => c7_relativityOf Rt.es (by omega) (by omega) ?_, fun z => absurd (Int.le_refl _) z⟩
        have hr := rel_bd hp hw h0 h1 hbw.1 (by omega)
        have hb := hw.1.2.1
        have hm2 := mulb (x := t 308) (y := t (280 + 6 * f + bw t f (lv p f - 1))) (A := 99999) (B := 99999) (by omega) (by omega)
        rw [Rt.es]
        refine ⟨by omega, by omega, by omega, c7_within ?_ (by decide) (by decide) ?_⟩
        · rw [tdivb hm2.1]; omega
        rintro _ rfl
        rw [mSet_rs, rs_rs, rs_same]
        have hw2 : WfS p (up t 308 (lvB t (lvR p t f))) := up308_wf hw (lvB_bd _ _) hp
        have ih : A7_levels_10 K (f + 1) (rs h 41 0 (lvU p (up t 308 (lvB t (lvR p t f))) f (lvR p t f) (lv p f))) := ih
        show A7_levels_110 K f (bw t f (lv p f - 1)) (lvR p t f) 0 (rs h 41 0 (up t 308 (lvB t (lvR p t f))))
        have hr : 1 ≤ lvR p t f ∧ lvR p t f ≤ 99999 := hr
        generalize lvR p t f = b at ih hw2 hr ⊢
        generalize up t 308 (lvB t b) = u at ih hw2 ⊢
        generalize bw t f (lv p f - 1) = x2
        have key := upI (P := fun l => A7_levels_110 K f x2 b l (rs h 41 0 (lvU p u f b l))) (n := lv p f) ?_ (fun l h2 h3 ih3 => ?_) 0 (by omega) (by omega)
        · rw [lvU_0] at key
          exact key
        · refine s7_levels_110 ⟨by omega, ?_⟩
          rw [rs_r (by decide), R.e35 h0 h1]
          exact ⟨by omega, fun _ => ih, fun z => absurd (Int.le_refl _) z⟩
        · have hwl := lvU_wf hp hw2 h0 h1 b l
          have Rl := R.row hwl
          have e2 := lvU_off (s := u) hp h0 h1 b l (j := 304 + f) (by omega)
          have hfs := fs_le (s := u) (f := f) h2
          refine s7_levels_110 ⟨by omega, ?_⟩
          rw [Rl.e35 h0 h1]
          refine ⟨by omega, fun z => by omega, fun _ => c7_firstOf Rl.es (by omega) (by omega) ?_⟩
          rw [fs_congr e2]
          refine ⟨by omega, fun z => ?_, fun z => c7_relativityOf Rl.es (by omega) (by omega) ?_⟩
          · rw [lvU_skip z] at ih3; exact ih3
          · have hv : lvU p u f b l (280 + 6 * f + l) = u (280 + 6 * f + l) := by rw [lvU_f b l h2 h3, if_neg (by rw [z]; omega)]
            have hr2 := rel_bd hp hw2 h0 h1 h2 h3
            rw [hv]
            refine ⟨by omega, by omega, ⟨by omega, by omega, by omega⟩, by omega, ?_⟩
            rw [Rl.e36 h0 h1]
            refine ⟨by omega, by omega, ?_⟩
            rw [Rl.e37 h0 h1]
            refine ⟨by omega, c7_within ?_ (by omega) (by omega) (c7_relates hp hwl.j Rl.es h0 h1 h2 h3 ?_)⟩
            · have hn : 0 ≤ u (280 + 6 * f + l) * 10000 := by omega
              rw [tdivb hn]
              refine ⟨by have := Int.ediv_nonneg hn (show 0 ≤ b by omega); omega, ?_⟩
              have h7 : u (280 + 6 * f + l) * 10000 / b ≤ u (280 + 6 * f + l) * 10000 := by
                refine Int.ediv_le_of_le_mul (by omega) ?_
                have := Int.mul_le_mul (a := u (280 + 6 * f + l) * 10000) (c := u (280 + 6 * f + l) * 10000) (b := 1) (d := b) (Int.le_refl _) (by omega) (by decide) hn
                omega
              omega
            · rw [rs_rs, lvU_do hp hw2 h0 h1 h2 h3 z]
              exact ih3
      · have hbw := bw_bd (s := t) (f := f) (l := l - 1) (by omega)
        have ih2 := ih2 (by omega)
        have e3 := bw_s (s := t) (f := f) (l := l - 1) (by omega)
        rw [show l - 1 + 1 = l by omega] at e3
        rw [show l + 1 - 1 = l by omega, e3] at ih2
        have hfs := fs_le (s := t) (f := f) h2
        have hE1 := csE_bd hw f l
        have hE2 := csE_bd hw f (bw t f (l - 1))
        refine s7_levels_22 ⟨by omega, ?_⟩
        rw [Rt.e35 h0 h1]
        refine ⟨by omega, fun z => by omega, fun _ => c7_firstOf Rt.es (by omega) (by omega) ⟨by omega, fun z => ?_, fun z => c7_sumE Rt h0 h1 h2 h3 (c7_sumE Rt h0 h1 hbw.1 (by omega) ⟨by omega, fun z2 => ?_, fun z2 => ?_⟩)⟩⟩
        · rw [if_neg (fun w => z w.1)] at ih2; exact ih2
        · rw [if_neg (fun w => by omega)] at ih2; exact ih2
        · rw [if_pos ⟨z, by omega⟩] at ih2; exact ih2
  · rw [if_pos z, ← R.es, rs_self] at k
    exact k
end REF5
