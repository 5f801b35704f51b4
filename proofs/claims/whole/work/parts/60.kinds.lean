/-! counting kinds: those met are as many as risks that are first of their kind -/
theorem lsN_get {P : Int → Bool} : ∀ n : Nat, ¬ lsN P n = -2 → P (lsN P n) = true ∧ ∀ j, 0 ≤ j → j < lsN P n → P j = false
  | 0, h => absurd rfl h
  | n + 1, h => by
    unfold lsN at h ⊢
    by_cases c : lsN P n = -2
    · rw [if_pos c] at h ⊢
      cases e : P (n : Int)
      · rw [e] at h; exact absurd rfl h
      · rw [if_pos rfl]
        refine ⟨e, fun j a b => ?_⟩
        have key : ∀ m : Nat, m ≤ n → lsN P m = -2 → ∀ j : Int, 0 ≤ j → j < m → P j = false := by
          intro m
          induction m with
          | zero => intro _ _ j a b; omega
          | succ m ih =>
            intro hm hz j a b
            unfold lsN at hz
            by_cases d : lsN P m = -2
            · rw [if_pos d] at hz
              by_cases e2 : j = (m : Int)
              · cases e3 : P (m : Int)
                · rw [e2]; exact e3
                · rw [e3] at hz
                  have : (m : Int) = -2 := hz
                  omega
              · exact ih (by omega) d j a (by omega)
            · rw [if_neg d] at hz; exact absurd hz d
        exact key n (Nat.le_refl n) c j a b
    · rw [if_neg c]
      exact lsN_get n c
theorem ls_get {P : Int → Bool} {n : Int} (h : ¬ ls P n = -2) : P (ls P n) = true ∧ ∀ j, 0 ≤ j → j < ls P n → P j = false := lsN_get _ h
theorem ls_none {P : Int → Bool} {n : Int} (h : ls P n = -2) : ∀ j, 0 ≤ j → j < n → P j = false := by
  have key : ∀ k : Nat, (k : Int) ≤ n → ∀ j : Int, 0 ≤ j → j < k → P j = false := by
    intro k hk j a b
    cases e : P j
    · rfl
    · exfalso
      have h2 : ∀ m : Nat, j < m → ¬ lsN P m = -2 := by
        intro m
        induction m with
        | zero => intro z; omega
        | succ m ih =>
          intro z w
          unfold lsN at w
          by_cases c : lsN P m = -2
          · rw [if_pos c] at w
            by_cases d : j = (m : Int)
            · rw [← d, e] at w
              have : j = -2 := w
              omega
            · exact ih (by omega) c
          · rw [if_neg c] at w; exact c w
      exact h2 n.toNat (by omega) h
  intro j a b
  exact key n.toNat (by omega) j a (by omega)
theorem smN_swap (w : Int → Int → Int) (m : Int) : ∀ n : Nat, smN (fun x => sm (w x) m) n = sm (fun r => smN (fun x => w x r) n) m
  | 0 => by
    have : ∀ k : Nat, smN (fun _ => 0) k = 0 := by
      intro k
      induction k with
      | zero => rfl
      | succ k ih => show smN (fun _ => 0) k + 0 = 0; rw [ih]; rfl
    exact (this _).symm
  | n + 1 => by
    show smN (fun x => sm (w x) m) n + sm (w n) m = _
    rw [smN_swap w m n, ← sm_add]
    rfl
theorem sm_swap (w : Int → Int → Int) (m n : Int) : sm (fun x => sm (w x) m) n = sm (fun r => sm (fun x => w x r) n) m := smN_swap w m _
theorem smN_point {x0 v : Int} : ∀ n : Nat, smN (fun x => if x = x0 then v else 0) n = if 0 ≤ x0 ∧ x0 < n then v else 0
  | 0 => by rw [if_neg (by omega)]; rfl
  | n + 1 => by
    show smN (fun x => if x = x0 then v else 0) n + (if (n : Int) = x0 then v else 0) = _
    rw [smN_point n]
    by_cases c : (n : Int) = x0
    · rw [if_pos c, if_neg (by omega), if_pos (by omega), Int.zero_add]
    · rw [if_neg c, Int.add_zero]
      by_cases d : 0 ≤ x0 ∧ x0 < n
      · rw [if_pos d, if_pos (by omega)]
      · rw [if_neg d, if_neg (by omega)]
theorem sm_point {x0 v n : Int} (h0 : 0 ≤ x0) (h1 : x0 < n) : sm (fun x => if x = x0 then v else 0) n = v := by
  unfold sm
  rw [smN_point, if_pos (by omega)]
section KINDS
variable {p : Pn} {s : Int → Int}
def kA (p : Pn) (f : Int) : Int := fl (fun f y => y * lv p f) 1 f
def kC (p : Pn) (s : Int → Int) (r f : Int) : Int := fl (fun f y => y + kA p f * s (7 * r + 3 + f)) 0 f
theorem kA_s (p : Pn) {f : Int} (h : 0 ≤ f) : kA p (f + 1) = kA p f * lv p f := fl_s _ _ h
theorem kC_s (p : Pn) (s : Int → Int) (r : Int) {f : Int} (h : 0 ≤ f) : kC p s r (f + 1) = kC p s r f + kA p f * s (7 * r + 3 + f) := fl_s _ _ h
theorem kA_pos (hp : WfP p) {f : Int} (h0 : 0 ≤ f) (h1 : f ≤ nf p) : 1 ≤ kA p f := by
  have := (knN_bd hp f.toNat (by omega)).1
  rw [Int.toNat_of_nonneg h0] at this
  exact this
theorem lev_bd (hp : WfP p) (hs : WfS p s) {r f : Int} (h0 : 0 ≤ r) (h1 : r < s 310) (h2 : 0 ≤ f) (h3 : f < nf p) : 0 ≤ s (7 * r + 3 + f) ∧ s (7 * r + 3 + f) < lv p f := by
  have h4 := hp.1.1
  have := (hs.2.1 r h0 h1).2.2.2 f h2 (by omega)
  exact ⟨this.1, this.2.1 h3⟩
theorem kN (hp : WfP p) (hs : WfS p s) {r : Int} (h0 : 0 ≤ r) (h1 : r < s 310) {x : Int} (hx : 0 ≤ x) : ∀ n : Nat, (n : Int) ≤ nf p → md p x n = x / kA p n ∧ (0 ≤ kC p s r n ∧ kC p s r n < kA p n) ∧ fl (meG p s x r) true (n : Int) = decide (x % kA p n = kC p s r n)
  | 0, _ => by
    refine ⟨?_, ⟨Int.le_refl _, by show (0 : Int) < 1; decide⟩, ?_⟩
    · show x = x / 1
      omega
    · show true = decide (x % 1 = 0)
      exact (decide_eq_true (by omega)).symm
  | n + 1, hn => by
    obtain ⟨i1, i2, i3⟩ := kN hp hs h0 h1 hx n (by omega)
    have hA := kA_pos hp (f := (n : Int)) (by omega) (by omega)
    have hl := (hp.2 (n : Int) (by omega) (by omega)).1
    have hd := lev_bd hp hs h0 h1 (f := (n : Int)) (by omega) (by omega)
    rw [show ((n + 1 : Nat) : Int) = (n : Int) + 1 by omega, md_s _ _ (by omega), kA_s p (by omega), kC_s p s r (by omega), fl_s _ _ (by omega), i3]
    unfold meG
    rw [i1]
    generalize kA p (n : Int) = A at *
    generalize kC p s r (n : Int) = C at *
    generalize s (7 * r + 3 + (n : Int)) = d at *
    generalize lv p (n : Int) = v at *
    have ee : x / A / v = x / (A * v) := Int.ediv_ediv_of_nonneg (by omega)
    have hAd1 : A * (d + 1) ≤ A * v := Int.mul_le_mul_of_nonneg_left (by omega) (by omega)
    have hAd0 : 0 ≤ A * d := Int.mul_nonneg (by omega) hd.1
    rw [Int.mul_add, Int.mul_one] at hAd1
    refine ⟨ee, by omega, ?_⟩
    have m1 : x % (A * v) = x - A * v * (x / (A * v)) := Int.emod_def _ _
    have m2 : x % A = x - A * (x / A) := Int.emod_def _ _
    have m3 : x / A % v = x / A - v * (x / A / v) := Int.emod_def _ _
    have m4 : x % (A * v) = x % A + A * (x / A % v) := by
      rw [m1, m2, m3, Int.mul_sub, ← Int.mul_assoc, ee]
      omega
    have r1 := Int.emod_nonneg x (show A ≠ 0 by omega)
    have r2 := Int.emod_lt_of_pos x (show 0 < A by omega)
    have t1 := Int.emod_nonneg (x / A) (show v ≠ 0 by omega)
    rw [m4]
    generalize x % A = r0 at *
    generalize x / A % v = t at *
    by_cases c : r0 = C
    · rw [decide_eq_true c, Bool.true_and]
      by_cases e : t = d
      · rw [decide_eq_true e, decide_eq_true (by rw [c, e])]
      · rw [decide_eq_false e]
        refine (decide_eq_false (fun w => ?_)).symm
        have w2 : A * t = A * d := by omega
        exact e (Int.eq_of_mul_eq_mul_left (by omega) w2)
    · rw [decide_eq_false c, Bool.false_and]
      refine (decide_eq_false (fun w => ?_)).symm
      rcases Int.lt_trichotomy t d with a | a | a
      · have := Int.mul_le_mul_of_nonneg_left (show t + 1 ≤ d by omega) (show 0 ≤ A by omega)
        rw [Int.mul_add, Int.mul_one] at this
        omega
      · rw [a] at w; omega
      · have := Int.mul_le_mul_of_nonneg_left (show d + 1 ≤ t by omega) (show 0 ≤ A by omega)
        rw [Int.mul_add, Int.mul_one] at this
        omega
/-- a risk's kind -/
def cd (p : Pn) (s : Int → Int) (r : Int) : Int := kC p s r (nf p)
theorem cd_bd (hp : WfP p) (hs : WfS p s) {r : Int} (h0 : 0 ≤ r) (h1 : r < s 310) : 0 ≤ cd p s r ∧ cd p s r < kn p := by
  have h4 := hp.1.1
  have := (kN hp hs h0 h1 (Int.le_refl 0) (nf p).toNat (by omega)).2.1
  rw [Int.toNat_of_nonneg h4.1] at this
  exact this
theorem me_cd (hp : WfP p) (hs : WfS p s) {r x : Int} (h0 : 0 ≤ r) (h1 : r < s 310) (hx : 0 ≤ x) (hx2 : x < kn p) : meR p s x r = decide (x = cd p s r) := by
  have h4 := hp.1.1
  have h5 := (kN hp hs h0 h1 hx (nf p).toNat (by omega)).2.2
  rw [Int.toNat_of_nonneg h4.1] at h5
  have e : x % kA p (nf p) = x := Int.emod_eq_of_lt hx hx2
  rw [e] at h5
  exact h5
theorem me_dig {x r : Int} : ∀ n : Nat, fl (meG p s x r) true (n : Int) = true → ∀ g : Int, 0 ≤ g → g < n → md p x g % lv p g = s (7 * r + 3 + g)
  | 0, _, g, a, b => by omega
  | n + 1, h, g, a, b => by
    rw [show ((n + 1 : Nat) : Int) = (n : Int) + 1 by omega, fl_s _ _ (by omega)] at h
    unfold meG at h
    rw [Bool.and_eq_true, decide_eq_true_eq] at h
    by_cases c : g = (n : Int)
    · rw [c]; exact h.2
    · exact me_dig n h.1 g a (by omega)
theorem cd_pk (hp : WfP p) (hs : WfS p s) {r q : Int} (h0 : 0 ≤ r) (h1 : r < s 310) (h2 : 0 ≤ q) (h3 : q < s 310) : cd p s q = cd p s r ↔ pkL s q = pkL s r := by
  have h4 := hp.1.1
  constructor
  · intro e
    have hb := cd_bd hp hs h0 h1
    have m1 : meR p s (cd p s r) r = true := by rw [me_cd hp hs h0 h1 hb.1 hb.2]; exact decide_eq_true rfl
    have m2 : meR p s (cd p s r) q = true := by rw [me_cd hp hs h2 h3 hb.1 hb.2]; exact decide_eq_true e.symm
    have hd : ∀ g, 0 ≤ g → g < 4 → s (7 * q + 3 + g) = s (7 * r + 3 + g) := by
      intro g a b
      by_cases c : g < nf p
      · have d1 := me_dig (p := p) (s := s) (nf p).toNat (by rw [Int.toNat_of_nonneg h4.1]; exact m1) g a (by omega)
        have d2 := me_dig (p := p) (s := s) (nf p).toNat (by rw [Int.toNat_of_nonneg h4.1]; exact m2) g a (by omega)
        rw [← d1, ← d2]
      · rw [((hs.2.1 q h2 h3).2.2.2 g a b).2.2 (by omega), ((hs.2.1 r h0 h1).2.2.2 g a b).2.2 (by omega)]
    unfold pkL
    rw [hd 0 (by decide) (by decide), hd 1 (by decide) (by decide), hd 2 (by decide) (by decide), hd 3 (by decide) (by decide)]
  · intro e
    have hd : ∀ g, 0 ≤ g → g < nf p → s (7 * q + 3 + g) = s (7 * r + 3 + g) := by
      intro g a b
      rw [← pkL_dg hp hs h2 h3 a (by omega), ← pkL_dg hp hs h0 h1 a (by omega), e]
    have key : ∀ n : Nat, (n : Int) ≤ nf p → kC p s q n = kC p s r n := by
      intro n
      induction n with
      | zero => intro _; rfl
      | succ n ih =>
        intro hn
        rw [show ((n + 1 : Nat) : Int) = (n : Int) + 1 by omega, kC_s p s q (by omega), kC_s p s r (by omega), ih (by omega), hd n (by omega) (by omega)]
    have := key (nf p).toNat (by omega)
    rw [Int.toNat_of_nonneg h4.1] at this
    exact this
theorem met_sum (hp : WfP p) (hs : WfS p s) {x : Int} (hx : 0 ≤ x) (hx2 : x < kn p) : (if met p s x then (1 : Int) else 0) = sm (fun r => if fiK s r = true ∧ x = cd p s r then 1 else 0) (s 310) := by
  have hm := hs.1.1
  by_cases c : ls (meR p s x) (s 310) = -2
  · have hn := ls_none c
    rw [show met p s x = false from decide_eq_false (fun z => z c)]
    have e : sm (fun r => if fiK s r = true ∧ x = cd p s r then 1 else 0) (s 310) = sm (fun _ => 0) (s 310) := by
      refine sm_congr (fun r a b => ?_)
      have h5 := hn r a b
      rw [me_cd hp hs a b hx hx2, decide_eq_false_iff_not] at h5
      rw [if_neg (fun z => h5 z.2)]
    rw [e]
    have h6 := sm_bd (w := fun _ => 0) (a := 0) (b := 0) hm.1 (fun r _ _ => by omega)
    simp only [Bool.false_eq_true, if_false]
    omega
  · obtain ⟨g1, g2⟩ := ls_get c
    have hb := (ls_bd (P := meR p s x) hm.1).resolve_left c
    rw [show met p s x = true from decide_eq_true c, if_pos rfl]
    generalize ls (meR p s x) (s 310) = r0 at *
    rw [me_cd hp hs hb.1 hb.2 hx hx2, decide_eq_true_eq] at g1
    have hfi : fiK s r0 = true := by
      refine decide_eq_true (ls_no (fun q d f => ?_))
      have h7 := g2 q d f
      rw [me_cd hp hs d (by omega) hx hx2, decide_eq_false_iff_not] at h7
      refine decide_eq_false (fun z => h7 ?_)
      rw [g1, (cd_pk hp hs hb.1 hb.2 d (by omega)).mpr z]
    refine ((sm_congr (fun r a b => ?_)).trans (sm_point (x0 := r0) (v := 1) hb.1 hb.2)).symm
    by_cases e : r = r0
    · rw [if_pos e, e, if_pos ⟨hfi, g1⟩]
    · rw [if_neg (c := r = r0) e, if_neg]
      rintro ⟨z1, z2⟩
      have z3 : meR p s x r = true := by rw [me_cd hp hs a b hx hx2]; exact decide_eq_true z2
      by_cases f : r < r0
      · rw [g2 r a f] at z3; cases z3
      · have z4 := ls_none (of_decide_eq_true z1) r0 hb.1 (by omega)
        rw [decide_eq_false_iff_not] at z4
        exact z4 ((cd_pk hp hs a b hb.1 hb.2).mp (by rw [← g1, z2]))
theorem knF_eq (hp : WfP p) (hs : WfS p s) : kn p - sm (fun r => if fiK s r then 1 else 0) (s 310) = knF p s := by
  have hm := hs.1.1
  have hk := kn_bd hp
  have e1 : sm (fun x => if met p s x then (1 : Int) else 0) (kn p) = sm (fun r => if fiK s r then 1 else 0) (s 310) := by
    rw [sm_congr (fun x a b => met_sum hp hs a b), sm_swap]
    refine sm_congr (fun r a b => ?_)
    have hb := cd_bd hp hs a b
    cases e : fiK s r
    · have e2 : sm (fun x => if false = true ∧ x = cd p s r then (1 : Int) else 0) (kn p) = sm (fun _ => 0) (kn p) := sm_congr (fun x _ _ => by rw [if_neg (fun z => by cases z.1)])
      rw [e2]
      have h6 := sm_bd (w := fun _ => 0) (a := 0) (b := 0) (n := kn p) (by omega) (fun r _ _ => by omega)
      simp only [Bool.false_eq_true, if_false]
      omega
    · rw [if_pos rfl]
      refine (sm_congr (fun x _ _ => ?_)).trans (sm_point (x0 := cd p s r) (v := 1) hb.1 hb.2)
      by_cases c : x = cd p s r
      · rw [if_pos ⟨rfl, c⟩, if_pos c]
      · rw [if_neg (fun z => c z.2), if_neg c]
  have e3 : sm (fun x => (if met p s x then (0 : Int) else 1) + (if met p s x then (1 : Int) else 0)) (kn p) = sm (fun _ => 1) (kn p) := by
    refine sm_congr (fun x _ _ => ?_)
    cases met p s x <;> rfl
  rw [sm_add, e1] at e3
  have h7 := sm_bd (w := fun _ => 1) (a := 1) (b := 1) (n := kn p) (by omega) (fun r _ _ => by omega)
  unfold knF
  omega
end KINDS
