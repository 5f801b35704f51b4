/-! balance, misfit; a turn; rounds -/
theorem fsN_congr {s t : Int → Int} {f : Int} (e : t (304 + f) = s (304 + f)) : ∀ n : Nat, fsN t f n = fsN s f n
  | 0 => rfl
  | n + 1 => by
    unfold fsN
    rw [e, fsN_congr e n]
theorem fs_congr {s t : Int → Int} {f : Int} (e : t (304 + f) = s (304 + f)) (l : Int) : fs t f l = fs s f l := fsN_congr e _
theorem laF_congr {s t : Int → Int} {f : Int} (e : t (304 + f) = s (304 + f)) : ∀ (n : Nat) (l : Int), laF t f n l = laF s f n l
  | 0, _ => rfl
  | n + 1, l => by
    unfold laF
    rw [e, laF_congr e n (l + 1)]
theorem la_congr {s t : Int → Int} {f : Int} (e : t (304 + f) = s (304 + f)) (l : Int) : la t f l = la s f l := laF_congr e 6 l
section LAST
variable {p : Pn} {s : Int → Int}
theorem la_ind (hp : WfP p) (hj : JOk p s) {f : Int} (h0 : 0 ≤ f) (h1 : f < nf p) : ∀ (n : Nat) (l : Int), 0 ≤ l → l < lv p f → lv p f ≤ l + n → jb (s (304 + f)) (la s f l) = false ∧ ∀ k, l ≤ k → k < la s f l → jb (s (304 + f)) k = true
  | 0, l, h2, h3, h4 => by omega
  | n + 1, l, h2, h3, h4 => by
    rw [la_s hp hj h0 h1 h2 h3]
    cases e : jb (s (304 + f)) l
    · simp only [Bool.false_eq_true, if_false]
      exact ⟨e, fun k h5 h6 => by omega⟩
    · simp only [if_true]
      have hl := (hp.2 f h0 h1).1
      have h5 := hj f h0 h1 l h2 (by omega) e
      have ih := la_ind hp hj h0 h1 n (l + 1) (by omega) h5 (by omega)
      refine ⟨ih.1, fun k h6 h7 => ?_⟩
      by_cases e2 : k = l
      · rw [e2]; exact e
      · exact ih.2 k (by omega) h7
theorem la_all (hp : WfP p) (hj : JOk p s) {f l : Int} (h0 : 0 ≤ f) (h1 : f < nf p) (h2 : 0 ≤ l) (h3 : l < lv p f) : jb (s (304 + f)) (la s f l) = false ∧ ∀ k, l ≤ k → k < la s f l → jb (s (304 + f)) k = true := la_ind hp hj h0 h1 6 l h2 h3 (by have := (hp.2 f h0 h1).1; omega)
/-- a level's own levels: from the first one to the last -/
theorem la_iff (hp : WfP p) (hj : JOk p s) {f l k : Int} (h0 : 0 ≤ f) (h1 : f < nf p) (h2 : 0 ≤ l) (h3 : l < lv p f) (hk : 0 ≤ k) : fs s f k = fs s f l ↔ (fs s f l ≤ k ∧ k ≤ la s f l) := by
  have hb := fs_le (s := s) (f := f) h2
  have hl := (hp.2 f h0 h1).1
  have ha := la_all hp hj h0 h1 h2 h3
  have hlb := la_bd hp hj h0 h1 h2 h3
  have hjl : ∀ i, fs s f l ≤ i → i < l → jb (s (304 + f)) i = true := fun i a b => fs_joined l.toNat i (by rw [Int.toNat_of_nonneg h2]; exact a) (by omega)
  rw [fs_iff hb.1 (fs_fs s f l) hk]
  constructor
  · rintro ⟨a, b⟩
    refine ⟨a, ?_⟩
    by_cases c : k ≤ la s f l
    · exact c
    · have := b (la s f l) (by omega) (by omega)
      rw [ha.1] at this
      cases this
  · rintro ⟨a, b⟩
    refine ⟨a, fun i c d => ?_⟩
    by_cases e : i < l
    · exact hjl i c e
    · exact ha.2 i (by omega) (by omega)
/-- joined ones' relativities are alike -/
theorem rel_fs (hp : WfP p) (hs : WfS p s) {f : Int} (h0 : 0 ≤ f) (h1 : f < nf p) : ∀ n : Nat, (n : Int) < lv p f → s (280 + 6 * f + fs s f n) = s (280 + 6 * f + n)
  | 0, _ => rfl
  | n + 1, hn => by
    have e3 : ((n + 1 : Nat) : Int) = (n : Int) + 1 := by omega
    have hl := (hp.2 f h0 h1).1
    rw [e3] at hn ⊢
    rw [fs_s (by omega)]
    cases e : jb (s (304 + f)) n
    · simp
    · simp only [if_true]
      rw [rel_fs hp hs h0 h1 n (by omega), (hs.2.2.2 f h0 h1 n (by omega) (by omega) e).2]
theorem rel_fsI (hp : WfP p) (hs : WfS p s) {f l : Int} (h0 : 0 ≤ f) (h1 : f < nf p) (h2 : 0 ≤ l) (h3 : l < lv p f) : s (280 + 6 * f + fs s f l) = s (280 + 6 * f + l) := by
  have := rel_fs hp hs h0 h1 l.toNat (by omega)
  rwa [Int.toNat_of_nonneg h2] at this
end LAST
/-! what balances -/
def bal (p : Pn) (s : Int → Int) (f l : Int) : Bool := decide (csR s f l = 0) || (decide (mAbs (csC s f l - csP p s f l) * 1000 ≤ bd p * csC s f l) || ((decide (s (280 + 6 * f + l) = lo p f) && decide (csC s f l < csP p s f l)) || (decide (s (280 + 6 * f + l) = hi p f) && decide (csP p s f l < csC s f l))))
theorem mAbs_bd {x a : Int} (h : -a ≤ x ∧ x ≤ a) : 0 ≤ mAbs x ∧ mAbs x ≤ a := by
  unfold mAbs
  split <;> omega
section REF2
variable {h : mH} {p : Pn} {s : Int → Int}
theorem c7_sumC (R : Rf h p s) {K : Int → mH → Prop} {x1 x2 : Int} (h0 : 0 ≤ x1) (h1 : x1 < nf p) (h2 : 0 ≤ x2) (h3 : x2 < lv p x1) (k : K (csC s x1 x2) h) : OkJ M7_sumOf [mR 30 0, mI x1, mI x2, mI 1] h K := c7_sumOf R h0 h1 h2 h3 (by decide) k
theorem c7_sumE (R : Rf h p s) {K : Int → mH → Prop} {x1 x2 : Int} (h0 : 0 ≤ x1) (h1 : x1 < nf p) (h2 : 0 ≤ x2) (h3 : x2 < lv p x1) (k : K (csE s x1 x2) h) : OkJ M7_sumOf [mR 30 0, mI x1, mI x2, mI 0] h K := c7_sumOf R h0 h1 h2 h3 (by decide) k
theorem c7_balances (R : Rf h p s) {K : Int → mH → Prop} {x1 x2 : Int} (h0 : 0 ≤ x1) (h1 : x1 < nf p) (h2 : 0 ≤ x2) (h3 : x2 < lv p x1) (kt : bal p s x1 x2 = true → K 1 h) (kf : bal p s x1 x2 = false → K 0 h) : OkI M7_balances [mR 30 0, mI x1, mI x2] h K := by
  have h4 := R.n4
  have hR := csR_bd R.2.2.2 x1 x2
  have hC := csC_bd R.2.2.2 x1 x2
  have hP := csP_bd R.2.2.1 R.2.2.2 x1 x2
  have hb := R.2.2.1.1.2.1
  have hl := (R.pf h0 h1).1
  have hr := rel_bd R.2.2.1 R.2.2.2 h0 h1 h2 h3
  have hlh := R.pf h0 h1
  have hA := mAbs_bd (x := csC s x1 x2 - csP p s x1 x2) (a := 3963960360000) (by omega)
  have hm := mulb (x := bd p) (y := csC s x1 x2) (A := 999) (B := 3999960) hb hC
  refine s7_balances (c7_risksOf R h0 h1 h2 h3 ⟨by omega, fun z => ?_, fun z => kt (by unfold bal; simp [z])⟩)
  refine c7_sumC R h0 h1 h2 h3 (c7_premiumsOf R h0 h1 h2 h3 (c7_without (by omega) ?_))
  rw [R.1.2.1]
  refine ⟨by omega, ⟨by omega, by omega⟩, fun z2 => ?_, fun z2 => kt (by unfold bal; simp; exact Or.inr (Or.inl (by omega)))⟩
  have hno : decide (mAbs (csC s x1 x2 - csP p s x1 x2) * 1000 ≤ bd p * csC s x1 x2) = false := decide_eq_false (by omega)
  have hz : decide (csR s x1 x2 = 0) = false := decide_eq_false z
  have hb2 : bal p s x1 x2 = ((decide (s (280 + 6 * x1 + x2) = lo p x1) && decide (csC s x1 x2 < csP p s x1 x2)) || (decide (s (280 + 6 * x1 + x2) = hi p x1) && decide (csP p s x1 x2 < csC s x1 x2))) := by unfold bal; rw [hno, hz]; rfl
  have last : ¬ (s (280 + 6 * x1 + x2) = lo p x1 ∧ csC s x1 x2 < csP p s x1 x2) → A7_balances_79 K x1 x2 (csC s x1 x2) (csP p s x1 x2) (s (280 + 6 * x1 + x2)) h := by
    intro w
    refine s7_balances_79 ⟨by omega, ?_⟩
    rw [R.e37 h0 h1]
    refine ⟨by omega, fun z3 => kf ?_, fun z3 => ⟨by omega, fun z4 => kf ?_, fun z4 => kt ?_⟩⟩
    · rw [hb2]; simp; exact ⟨fun a => by have := fun b => w ⟨a, b⟩; omega, fun a => absurd a z3⟩
    · rw [hb2]; simp; exact ⟨fun a => by have := fun b => w ⟨a, b⟩; omega, fun a => by omega⟩
    · rw [hb2]; simp; exact Or.inr ⟨z3, by omega⟩
  refine c7_relativityOf R.es (by omega) (by omega) ⟨by omega, ?_⟩
  rw [R.e36 h0 h1]
  refine ⟨by omega, fun z3 => last (fun w => z3 w.1), fun z3 => ⟨by omega, fun z4 => kt ?_, fun z4 => last (fun w => z4 w.2)⟩⟩
  rw [hb2]; simp; exact Or.inl ⟨z3, z4⟩
def unL (p : Pn) (s : Int → Int) (f l : Int) : Int := if fs s f l = l ∧ bal p s f l = false then 1 else 0
def unF (p : Pn) (s : Int → Int) (f : Int) : Int := sm (unL p s f) (lv p f)
def unb (p : Pn) (s : Int → Int) : Int := sm (unF p s) (nf p)
theorem c7_unbalancedNow (R : Rf h p s) {K : Int → mH → Prop} (k : K (unb p s) h) : OkI M7_unbalancedNow [mR 30 0] h K := by
  have h4 := R.n4
  refine s7_unbalancedNow (upI (P := fun f => A7_unbalancedNow_4 K (sm (unF p s) f) f h) (n := nf p) ?_ (fun f h0 h1 ih => ?_) 0 (by omega) h4.1)
  · exact s7_unbalancedNow_4 (c7_factors R ⟨by omega, fun _ => k, fun z => absurd (Int.le_refl _) z⟩)
  · rw [sm_s _ h0] at ih
    have hl := (R.pf h0 h1).1
    refine s7_unbalancedNow_4 (c7_factors R ⟨by omega, fun z => by omega, fun _ => ?_⟩)
    have := upI (P := fun l => A7_unbalancedNow_14 K (sm (unF p s) f + sm (unL p s f) l) f l h) (n := lv p f) ?_ (fun l h2 h3 ih2 => ?_) 0 (by omega) (by omega)
    · rwa [sm_0, Int.add_zero] at this
    · refine s7_unbalancedNow_14 ⟨by omega, ?_⟩
      rw [R.e35 h0 h1]
      exact ⟨by omega, fun _ => ih, fun z => absurd (Int.le_refl _) z⟩
    · rw [sm_s _ h2, ← Int.add_assoc] at ih2
      refine s7_unbalancedNow_14 ⟨by omega, ?_⟩
      rw [R.e35 h0 h1]
      have hfs := fs_le (s := s) (f := f) h2
      refine ⟨by omega, fun z => by omega, fun _ => c7_firstOf R.es (by omega) (by omega) ⟨by omega, fun z => ?_, fun z => c7_balances R h0 h1 h2 h3 (fun w => ⟨by decide, fun _ => ?_, fun a => absurd a (by decide)⟩) (fun w => ⟨by decide, fun a => absurd rfl a, fun _ => ?_⟩)⟩⟩
      · rw [unL, if_neg (fun w => z w.1)] at ih2; exact ih2
      · rw [unL, if_neg (fun a => by rw [w] at a; exact absurd a.2 (by decide))] at ih2; exact ih2
      · rw [unL, if_pos ⟨z, w⟩] at ih2; exact ih2
def miL (p : Pn) (s : Int → Int) (f l : Int) : Int := if fs s f l = l then mAbs (csC s f l - csP p s f l) else 0
def miF (p : Pn) (s : Int → Int) (f : Int) : Int := sm (miL p s f) (lv p f)
def mis (p : Pn) (s : Int → Int) : Int := sm (miF p s) (nf p)
theorem c7_misfit (R : Rf h p s) {K : Int → mH → Prop} (k : K (mis p s) h) : OkJ M7_misfit [mR 30 0] h K := by
  have h4 := R.n4
  refine s7_misfit (upI (P := fun f => A7_misfit_4 K (sm (miF p s) f) f h) (n := nf p) ?_ (fun f h0 h1 ih => ?_) 0 (by omega) h4.1)
  · exact s7_misfit_4 (c7_factors R ⟨by omega, fun _ => k, fun z => absurd (Int.le_refl _) z⟩)
  · rw [sm_s _ h0] at ih
    have hl := (R.pf h0 h1).1
    refine s7_misfit_4 (c7_factors R ⟨by omega, fun z => by omega, fun _ => ?_⟩)
    have := upI (P := fun l => A7_misfit_15 K (sm (miF p s) f + sm (miL p s f) l) f l h) (n := lv p f) ?_ (fun l h2 h3 ih2 => ?_) 0 (by omega) (by omega)
    · rwa [sm_0, Int.add_zero] at this
    · refine s7_misfit_15 ⟨by omega, ?_⟩
      rw [R.e35 h0 h1]
      exact ⟨by omega, fun _ => ih, fun z => absurd (Int.le_refl _) z⟩
    · rw [sm_s _ h2, ← Int.add_assoc] at ih2
      refine s7_misfit_15 ⟨by omega, ?_⟩
      rw [R.e35 h0 h1]
      have hfs := fs_le (s := s) (f := f) h2
      have hC := csC_bd R.2.2.2 f l
      have hP := csP_bd R.2.2.1 R.2.2.2 f l
      refine ⟨by omega, fun z => by omega, fun _ => c7_firstOf R.es (by omega) (by omega) ⟨by omega, fun z => ?_, fun z => c7_sumC R h0 h1 h2 h3 (c7_premiumsOf R h0 h1 h2 h3 (c7_without (by omega) ?_))⟩⟩
      · rw [miL, if_neg z, Int.add_zero] at ih2; exact ih2
      · rw [miL, if_pos z] at ih2; exact ih2
end REF2
