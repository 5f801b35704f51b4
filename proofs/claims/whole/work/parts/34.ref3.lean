/-! a turn, rounds, the base -/
def wi (v a b : Int) : Int := if a ≤ v then (if v ≤ b then v else b) else a
theorem wi_bd {v a b : Int} (h : a ≤ b) : a ≤ wi v a b ∧ wi v a b ≤ b := by
  unfold wi
  split
  · split <;> omega
  · omega
theorem wi_mm {v a b : Int} (h : a ≤ b) : max a (min b v) = wi v a b := by
  unfold wi
  split
  · split <;> omega
  · omega
/-- what the relativity of the levels from c on becomes -/
def nv (p : Pn) (s : Int → Int) (f c : Int) : Int :=
  if s 311 = 0 then wi ((s (280 + 6 * f + c) * csC s f c).tdiv (csP p s f c)) (lo p f) (hi p f)
  else s (280 + 6 * f + c) + ((wi ((s (280 + 6 * f + c) * csC s f c).tdiv (csP p s f c)) (lo p f) (hi p f) - s (280 + 6 * f + c)) * csE s f c) / (csE s f c + s 311)
def tv (p : Pn) (s : Int → Int) (f c old : Int) : Int := if csP p s f c = 0 then old else nv p s f c
/-- those that begin below l are turned -/
def tuU (p : Pn) (s : Int → Int) (f l : Int) : Int → Int := fun j => if (280 + 6 * f ≤ j ∧ j < 280 + 6 * f + lv p f) ∧ fs s f (j - (280 + 6 * f)) < l then tv p s f (fs s f (j - (280 + 6 * f))) (s j) else s j
def tuS (p : Pn) (s : Int → Int) (f : Int) : Int → Int := fun j => if 280 + 6 * f ≤ j ∧ j < 280 + 6 * f + lv p f then tv p s f (fs s f (j - (280 + 6 * f))) (s j) else s j
/-- how many are others then -/
def tcL (p : Pn) (s : Int → Int) (f l : Int) : Int := if fs s f l = l ∧ ¬ csP p s f l = 0 ∧ ¬ nv p s f l = s (280 + 6 * f + l) then 1 else 0
def tc (p : Pn) (s : Int → Int) (f : Int) : Int := sm (tcL p s f) (lv p f)
def reS (s : Int → Int) (f l v : Int) : Int → Int := fun j => if 280 + 6 * f + fs s f l ≤ j ∧ j ≤ 280 + 6 * f + la s f l then v else s j
theorem smN_0 {w : Int → Int} : ∀ n : Nat, (∀ r : Int, 0 ≤ r → r < n → 0 ≤ w r) → smN w n = 0 → ∀ r : Int, 0 ≤ r → r < n → w r = 0
  | 0, _, _, r, h0, h1 => by omega
  | n + 1, h, e, r, h0, h1 => by
    have hn := smN_bd (w := w) (a := 0) (b := smN w n + 1) n
    have e : smN w n + w n = 0 := e
    have h2 := h n (by omega) (by omega)
    have h3 : 0 ≤ smN w n := by
      have key : ∀ m : Nat, m ≤ n → 0 ≤ smN w m := by
        intro m
        induction m with
        | zero => intro _; exact Int.le_refl 0
        | succ m ih =>
          intro hm
          have := ih (by omega)
          have := h m (by omega) (by omega)
          show 0 ≤ smN w m + w m
          omega
      exact key n (Nat.le_refl n)
    by_cases e2 : r = n
    · rw [e2]; omega
    · exact smN_0 n (fun q a b => h q a (by omega)) (by omega) r h0 (by omega)
theorem cs_none {s : Int → Int} {f l : Int} (h : csR s f l = 0) (w : Int → Int) : cs s f l w = 0 := by
  have key := smN_0 (w := co s f l (fun _ => 1)) (s 310).toNat (fun r _ _ => by unfold co; dsimp only; split <;> omega) h
  have h2 : cs s f l w = sm (fun _ => 0) (s 310) := by
    refine smN_congr _ (fun r h0 h1 => ?_)
    have := key r h0 h1
    unfold co at this ⊢
    by_cases e : fs s f (s (7 * r + 3 + f)) = fs s f l
    · rw [if_pos e] at this; dsimp only at this; omega
    · rw [if_neg e]
  rw [h2]
  have h3 : ∀ n : Nat, smN (fun _ => 0) n = 0 := by
    intro n
    induction n with
    | zero => rfl
    | succ n ih => show smN (fun _ => 0) n + 0 = 0; omega
  exact h3 _
theorem flo {u d : Int} (hd : 0 < d) : (u.tdiv d * d ≤ u → u.tdiv d = u / d) ∧ (¬ u.tdiv d * d ≤ u → u.tdiv d - 1 = u / d) := by
  have ht := Int.tmod_add_tdiv_mul u d
  have hr := tmod_bounds (a := u) hd
  refine ⟨fun a => ?_, fun a => ?_⟩
  · exact (((Int.ediv_emod_unique (a := u) (b := d) (r := u.tmod d) (q := u.tdiv d) hd).mpr ⟨by rw [Int.mul_comm]; exact ht, by omega, hr.2⟩).1).symm
  · refine (((Int.ediv_emod_unique (a := u) (b := d) (r := u.tmod d + d) (q := u.tdiv d - 1) hd).mpr ⟨?_, by omega, by omega⟩).1).symm
    rw [Int.mul_sub, Int.mul_one, Int.mul_comm]
    omega
section TURN
variable {p : Pn} {s : Int → Int}
theorem nv_bd (hp : WfP p) (hs : WfS p s) {f c : Int} (h0 : 0 ≤ f) (h1 : f < nf p) (h2 : 0 ≤ c) (h3 : c < lv p f) : lo p f ≤ nv p s f c ∧ nv p s f c ≤ hi p f := by
  have hb := hp.2 f h0 h1
  have hr := hs.2.2.1 f h0 h1 c h2 h3
  have hw := wi_bd (v := (s (280 + 6 * f + c) * csC s f c).tdiv (csP p s f c)) (a := lo p f) (b := hi p f) (by omega)
  have hE := csE_bd hs f c
  have hT := hs.1.2.2.2.1
  unfold nv
  split
  · exact hw
  · rename_i hz
    generalize wi ((s (280 + 6 * f + c) * csC s f c).tdiv (csP p s f c)) (lo p f) (hi p f) = v at hw ⊢
    generalize s (280 + 6 * f + c) = r at hr ⊢
    generalize csE s f c = E at hE ⊢
    generalize s 311 = t at hT hz ⊢
    have hD : 0 < E + t := by omega
    have key : ∀ q : Int, q = ((v - r) * E) / (E + t) → (0 ≤ v - r → 0 ≤ q ∧ q ≤ v - r) ∧ (v - r ≤ 0 → v - r ≤ q ∧ q ≤ 0) := by
      intro q hq
      refine ⟨fun a => ⟨?_, ?_⟩, fun a => ⟨?_, ?_⟩⟩
      · rw [hq]; exact Int.ediv_nonneg (Int.mul_nonneg a hE.1) (by omega)
      · rw [hq]
        refine Int.ediv_le_of_le_mul hD ?_
        have := Int.mul_nonneg a (show 0 ≤ t by omega)
        rw [Int.mul_add]; omega
      · rw [hq]
        refine Int.le_ediv_of_mul_le hD ?_
        have := Int.mul_nonneg (show 0 ≤ -(v - r) by omega) (show 0 ≤ t by omega)
        rw [Int.mul_add]
        rw [Int.neg_mul] at this
        omega
      · have h8 : (v - r) * E ≤ 0 := by
          have := Int.mul_nonneg (show 0 ≤ -(v - r) by omega) hE.1
          rw [Int.neg_mul] at this; omega
        rw [hq]
        have := Int.ediv_le_ediv hD h8
        rwa [Int.zero_ediv] at this
    have := key _ rfl
    generalize ((v - r) * E) / (E + t) = q at this ⊢
    omega
end TURN
section REF3
variable {h : mH} {p : Pn} {s : Int → Int}
theorem c7_within {K : Int → mH → Prop} {x0 x2 x4 : Int} (h1 : mInL x0) (h2 : mInL x2) (h3 : mInL x4) (k : K (wi x0 x2 x4) h) : OkJ M7_within [mJ x0, mJ x2, mJ x4] h K := by
  unfold wi at k
  refine s7_within ⟨⟨h1, h2⟩, fun z => ⟨⟨h1, h3⟩, fun z2 => ?_, fun z2 => ?_⟩, fun z => ?_⟩
  · rw [if_pos z, if_pos z2] at k; exact k
  · rw [if_pos z, if_neg z2] at k; exact k
  · rw [if_neg z] at k; exact k
def reK (s : Int → Int) (f a q v : Int) : Int → Int := fun j => if 280 + 6 * f + a ≤ j ∧ j < 280 + 6 * f + q then v else s j
theorem reK_off (hp : WfP p) {f a q v j : Int} (h1 : f < nf p) (hq : q ≤ 6) (hj : 304 ≤ j) : reK s f a q v j = s j := by
  have := hp.1.1
  unfold reK
  rw [if_neg (by omega)]
theorem c7_relates (hp : WfP p) (hj : JOk p s) (e : h 41 0 = s) {K : mH → Prop} {x1 x2 x3 : Int} (h0 : 0 ≤ x1) (h1 : x1 < nf p) (h2 : 0 ≤ x2) (h3 : x2 < lv p x1) (k : K (rs h 41 0 (reS s x1 x2 x3))) : OkV M7_relates [mR 30 0, mI x1, mI x2, mI x3] h K := by
  have h4 := hp.1.1
  have hl := (hp.2 x1 h0 h1).1
  have hb := fs_le (s := s) (f := x1) h2
  have hb2 := la_bd hp hj h0 h1 h2 h3
  have hj2 : ∀ q, q ≤ 6 → JOk p (reK s x1 (fs s x1 x2) q x3) := by
    intro q hq f a b l c d g
    rw [reK_off hp h1 hq (by omega)] at g
    exact hj f a b l c d g
  have hla : ∀ q, q ≤ 6 → la (reK s x1 (fs s x1 x2) q x3) x1 x2 = la s x1 x2 := fun q hq => la_congr (reK_off hp h1 hq (by omega)) _
  refine s7_relates (c7_firstOf e (by omega) (by omega) ?_)
  have key := upI (P := fun q => fs s x1 x2 ≤ q → A7_relates_8 K x1 x2 x3 q (rs h 41 0 (reK s x1 (fs s x1 x2) q x3))) (n := la s x1 x2 + 1) (fun _ => ?_) (fun q h5 h6 ih hq => ?_) (fs s x1 x2) hb.1 (by omega) (Int.le_refl _)
  · have e2 : reK s x1 (fs s x1 x2) (fs s x1 x2) x3 = h 41 0 := by
      funext j
      unfold reK
      rw [if_neg (by omega), e]
    rw [e2, rs_self] at key
    exact key
  · refine s7_relates_8 (c7_lastOf hp (hj2 _ (by omega)) (rs_same _ _ _ _) ⟨h0, h1⟩ ⟨h2, h3⟩ ?_)
    rw [hla _ (by omega)]
    refine ⟨by omega, fun _ => ?_, fun z => by omega⟩
    have e2 : reK s x1 (fs s x1 x2) (la s x1 x2 + 1) x3 = reS s x1 x2 x3 := by
      funext j
      unfold reS reK
      by_cases c : 280 + 6 * x1 + fs s x1 x2 ≤ j ∧ j < 280 + 6 * x1 + (la s x1 x2 + 1)
      · rw [if_pos c, if_pos (by omega)]
      · rw [if_neg c, if_neg (by omega)]
    rw [e2]
    exact k
  · refine s7_relates_8 (c7_lastOf hp (hj2 _ (by omega)) (rs_same _ _ _ _) ⟨h0, h1⟩ ⟨h2, h3⟩ ?_)
    rw [hla _ (by omega)]
    refine ⟨by omega, fun z => by omega, fun _ => ⟨by omega, ?_⟩⟩
    rintro _ rfl
    rw [mSet_rs, rs_same, rs_rs]
    have e2 : up (reK s x1 (fs s x1 x2) q x3) (280 + 6 * x1 + q) x3 = reK s x1 (fs s x1 x2) (q + 1) x3 := by
      funext j
      unfold up reK
      by_cases c : j = 280 + 6 * x1 + q
      · rw [if_pos c, if_pos (by omega)]
      · rw [if_neg c]
        by_cases d : 280 + 6 * x1 + fs s x1 x2 ≤ j ∧ j < 280 + 6 * x1 + q
        · rw [if_pos d, if_pos (by omega)]
        · rw [if_neg d, if_neg (by omega)]
    rw [e2]
    exact ih (by omega)
theorem c7_trusted (R : Rf h p s) {K : Int → mH → Prop} {x1 x2 x3 x4 : Int} (h0 : 0 ≤ x1) (h1 : x1 < nf p) (h2 : 0 ≤ x2) (h3 : x2 < lv p x1) (h5 : 1 ≤ x3 ∧ x3 ≤ 99999) (h6 : 1 ≤ x4 ∧ x4 ≤ 99999) (k : K (if s 311 = 0 then x4 else x3 + ((x4 - x3) * csE s x1 x2) / (csE s x1 x2 + s 311)) h) : OkI M7_trusted [mR 30 0, mI x1, mI x2, mI x3, mI x4] h K := by
  have hT := R.2.2.2.1.2.2.2.1
  have hE := csE_bd R.2.2.2 x1 x2
  refine s7_trusted ?_
  rw [R.es]
  refine ⟨by omega, fun z => ?_, fun z => ?_⟩
  · rw [if_neg z] at k
    refine c7_sumE R h0 h1 h2 h3 ⟨by omega, ?_⟩
    rw [R.es]
    have hD : 0 < csE s x1 x2 + s 311 := by omega
    have hm : -(99998 * 3960) ≤ (x4 - x3) * csE s x1 x2 ∧ (x4 - x3) * csE s x1 x2 ≤ 99998 * 3960 := by
      rcases Int.le_total 0 (x4 - x3) with a | a
      · have := mulb (x := x4 - x3) (y := csE s x1 x2) (A := 99998) (by omega) hE
        omega
      · have := mulb (x := -(x4 - x3)) (y := csE s x1 x2) (A := 99998) (by omega) hE
        rw [Int.neg_mul] at this
        omega
    show mInR (s 311) ∧ (mInL ((x4 - x3) * csE s x1 x2) ∧ mInL (csE s x1 x2 + s 311) ∧ (csE s x1 x2 + s 311) ≠ 0) ∧ (mInR x3) ∧ (mInL ((Int.tdiv ((x4 - x3) * csE s x1 x2) (csE s x1 x2 + s 311)) * (csE s x1 x2 + s 311)) ∧ mInL ((x4 - x3) * csE s x1 x2)) ∧ (((Int.tdiv ((x4 - x3) * csE s x1 x2) (csE s x1 x2 + s 311)) * (csE s x1 x2 + s 311)) ≤ ((x4 - x3) * csE s x1 x2) → (K (x3 + (Int.tdiv ((x4 - x3) * csE s x1 x2) (csE s x1 x2 + s 311))) h)) ∧ (¬ ((Int.tdiv ((x4 - x3) * csE s x1 x2) (csE s x1 x2 + s 311)) * (csE s x1 x2 + s 311)) ≤ ((x4 - x3) * csE s x1 x2) → (K (x3 + ((Int.tdiv ((x4 - x3) * csE s x1 x2) (csE s x1 x2 + s 311)) - 1)) h))
    have hDb : csE s x1 x2 + s 311 ≤ 4959 := by omega
    generalize (x4 - x3) * csE s x1 x2 = u at hm k ⊢
    generalize csE s x1 x2 + s 311 = d at hD hDb k ⊢
    have hf := flo (u := u) hD
    have ht := Int.tmod_add_tdiv_mul u d
    have hr := tmod_bounds (a := u) hD
    refine ⟨by omega, ⟨by omega, by omega, by omega⟩, by omega, ⟨by omega, by omega⟩, fun z2 => ?_, fun z2 => ?_⟩
    · rw [hf.1 z2]; exact k
    · rw [hf.2 z2]; exact k
  · rw [if_pos z] at k; exact k
end REF3
