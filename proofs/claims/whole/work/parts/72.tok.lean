/-! the reference reads a token -/
def TR (h : mH) (t : Int → Int) (n : Int) : Prop := TpOk t n ∧ ∀ j, 0 ≤ j → j < n → h 31 0 j = t j
def hr (t : Int → Int) (n i : Int) : Int := if i < n then t i else -1
theorem set30 (h : mH) (g : Int → Int) (k v : Int) : mSet (rs h 30 0 g) 30 0 k v = rs h 30 0 (up g k v) := by rw [mSet_rs, rs_same, rs_rs]
section TOKR
variable {h : mH} {t : Int → Int} {n : Int}
theorem hr_bd (T : TpOk t n) {i : Int} (hi : 0 ≤ i) : -1 ≤ hr t n i ∧ hr t n i ≤ 255 := by
  unfold hr
  by_cases c : i < n
  · rw [if_pos c]; have := T.2 i hi c; omega
  · rw [if_neg c]; decide
theorem c7_here (T : TR h t n) {g : Int → Int} (g13 : g 13 = n) (g14 : 0 ≤ g 14 ∧ g 14 ≤ n) {K : Int → mH → Prop} (k : K (hr t n (g 14)) (rs h 30 0 g)) : OkI M7_here [mR 30 0] (rs h 30 0 g) K := by
  have hn := T.1.1
  refine s7_here ?_
  rw [rs_same, g13, rs_r (r' := 31) (by decide)]
  refine ⟨⟨by omega, by omega⟩, fun z => ?_, fun z => ⟨by omega, ?_⟩⟩
  · unfold hr at k
    rw [if_neg (by omega)] at k
    exact k
  · unfold hr at k
    rw [if_pos (by omega)] at k
    rw [T.2 _ g14.1 (by omega)]
    exact k
theorem c7_small {c : Int} (hc : mInR c) {K : Int → mH → Prop} (kt : isL c = true → K 1 h) (kf : isL c = false → K 0 h) : OkI M7_isSmall [mI c] h K := s7_isSmall ⟨hc, fun z => kf (isL_f.2 (by omega)), fun z => ⟨hc, fun z2 => kf (isL_f.2 (by omega)), fun z2 => kt (isL_t.2 (by omega))⟩⟩
theorem c7_digit {c : Int} (hc : mInR c) {K : Int → mH → Prop} (kt : isD c = true → K 1 h) (kf : isD c = false → K 0 h) : OkI M7_isDigit [mI c] h K := s7_isDigit ⟨hc, fun z => kf (isD_f.2 (by omega)), fun z => ⟨hc, fun z2 => kf (isD_f.2 (by omega)), fun z2 => kt (isD_t.2 (by omega))⟩⟩
theorem c7_name1 {K : mH → Prop} {g : Int → Int} {q e k v : Int} (hq : g 15 = q) (he : g 14 = e) (hv : g 17 = v) (hqe : 0 ≤ q ∧ q ≤ e ∧ e ≤ 900) (ht : ∀ j, q ≤ j → j < e → h 31 0 j = t j ∧ isL (t j) = true) (hk : 0 ≤ k ∧ k < 6) (hvb : 0 ≤ v ∧ v < 33554432) (kk : A7_nameHere_7 K (k + 1) (rs h 30 0 (up g 17 (32 * v + lt5 t q e k)))) : A7_nameHere_7 K k (rs h 30 0 g) := by
  have hb := lt5_bd (t := t) (q := q) (e := e) (fun j a b => (ht j a b).2) k hk.1
  have es : mShl v 5 = 32 * v := by
    rw [mShl_mul hvb.1 (by decide) (by decide) (by show v * 32 < 2147483648; omega)]
    show v * 32 = 32 * v
    omega
  have eo : ∀ c, 0 ≤ c → c < 32 → mOr (mShl v 5) c = 32 * v + c := by
    intro c c0 c1
    rw [es, mOr_add 5 (by omega) c0 (by show c < 32; exact c1) (by omega) ⟨v.toNat, by show 32 * v = 32 * (v.toNat : Int); omega⟩]
  refine s7_nameHere_7 ⟨by omega, fun z => by omega, fun _ => ?_⟩
  rw [rs_same, hq, he, hv, rs_r (r' := 31) (by decide)]
  refine ⟨by omega, fun z => ?_, fun z => ⟨by omega, ?_⟩⟩
  · rintro _ rfl
    rw [set30, eo 0 (by decide) (by decide)]
    unfold lt5 at kk
    rw [if_neg (by omega)] at kk
    exact kk
  · rintro _ rfl
    have h1 := ht (q + k) (by omega) (by omega)
    have h2 := isL_t.1 h1.2
    rw [set30, h1.1, eo _ (by omega) (by omega)]
    unfold lt5 at kk
    rw [if_pos (by omega), show t (q + k) - 96 = t (q + k) - 97 + 1 by omega] at kk
    exact kk
theorem c7_nameHere {K : mH → Prop} {g : Int → Int} {q e : Int} (hq : g 15 = q) (he : g 14 = e) (hqe : 0 ≤ q ∧ q ≤ e ∧ e ≤ 900) (ht : ∀ j, q ≤ j → j < e → h 31 0 j = t j ∧ isL (t j) = true) (k : ∀ g2, (∀ j, j ≠ 17 → g2 j = g j) → g2 17 = pk5 t q e → K (rs h 30 0 g2)) : OkV M7_nameHere [mR 30 0] (rs h 30 0 g) K := by
  have b := fun j hj => lt5_bd (t := t) (q := q) (e := e) (fun j a b => (ht j a b).2) j hj
  have b0 := b 0 (by decide)
  have b1 := b 1 (by decide)
  have b2 := b 2 (by decide)
  have b3 := b 3 (by decide)
  have b4 := b 4 (by decide)
  have b5 := b 5 (by decide)
  refine s7_nameHere ?_
  rintro _ rfl
  rw [set30]
  have nx : ∀ (v : Int), (up g 17 v) 15 = q ∧ (up g 17 v) 14 = e ∧ (up g 17 v) 17 = v := fun v => ⟨by rw [up_ne (by decide)]; exact hq, by rw [up_ne (by decide)]; exact he, up_same _ _ _⟩
  have uu : ∀ (v w : Int), up (up g 17 v) 17 w = up g 17 w := by
    intro v w
    funext j
    unfold up
    by_cases c : j = 17
    · rw [if_pos c, if_pos c]
    · rw [if_neg c, if_neg c, if_neg c]
  have st : ∀ (m v : Int), 0 ≤ m ∧ m < 6 → 0 ≤ v ∧ v < 33554432 → A7_nameHere_7 K (m + 1) (rs h 30 0 (up g 17 (32 * v + lt5 t q e m))) → A7_nameHere_7 K m (rs h 30 0 (up g 17 v)) := by
    intro m v h1 h2 h3
    refine c7_name1 (nx v).1 (nx v).2.1 (nx v).2.2 hqe ht h1 h2 ?_
    rw [uu]
    exact h3
  refine st 0 0 (by decide) (by decide) (st 1 _ (by decide) (by omega) (st 2 _ (by decide) (by omega) (st 3 _ (by decide) (by omega) (st 4 _ (by decide) (by omega) (st 5 _ (by decide) (by omega) ?_)))))
  refine s7_nameHere_7 ⟨by decide, fun _ => ?_, fun z => absurd (by decide) z⟩
  refine k _ (fun j hj => up_ne hj) ?_
  rw [up_same]
  unfold pk5
  omega
/-- letters, and what they say -/
theorem c7_tok64 (T : TR h t n) {K : mH → Prop} {c q : Int} (hq : 0 ≤ q ∧ q < n) (hl : isL (t q) = true) {g0 : Int → Int} (g13 : g0 13 = n) (g15 : g0 15 = q) (g14 : g0 14 = q)
    (k : ∀ g, (∀ j, ¬ (14 ≤ j ∧ j ≤ 17) → g j = g0 j) → g 14 = tEq t n q → g 15 = q → g 16 = tSq t n q → g 17 = tVq t n q ∨ tSq t n q = 5 → K (rs h 30 0 g)) : A7_token_64 K c (rs h 30 0 g0) := by
  have hn := T.1.1
  have hb := sk_bd (P := isL) (t := t) (n := n) (i := q) (by omega)
  have hall : ∀ j, q ≤ j → j < sk isL t n q → h 31 0 j = t j ∧ isL (t j) = true := fun j a b => ⟨T.2 j (by omega) (by omega), sk_all a b⟩
  have key := upI (P := fun m => ∀ g : Int → Int, (∀ j, j ≠ 14 → g j = g0 j) → g 14 = q + m → A7_token_64 K c (rs h 30 0 g)) (n := sk isL t n q - q) (fun g he h14 => ?_) (fun m h5 h6 ih g he h14 => ?_) 0 (by omega) (by omega)
  · exact key g0 (fun _ _ => rfl) (by omega)
  · have hne : isL (hr t n (g 14)) = false := by
      rw [h14, show q + (sk isL t n q - q) = sk isL t n q by omega]
      unfold hr
      by_cases z : sk isL t n q < n
      · rw [if_pos z]; exact sk_stop z (by omega)
      · rw [if_neg z]; decide
    have e14 : g 14 = sk isL t n q := by omega
    have e15 : g 15 = q := by rw [he 15 (by decide)]; exact g15
    have hbb := hr_bd T.1 (i := g 14) (by omega)
    refine s7_token_64 (c7_here T (by rw [he 13 (by decide)]; exact g13) (by omega) (c7_small (by omega) (fun z => by rw [hne] at z; cases z) (fun _ => ⟨by decide, fun _ => ?_, fun z => absurd rfl z⟩)))
    have tq : tEq t n q = sk isL t n q := by unfold tEq; rw [if_neg (by omega), if_pos hl]
    have hw := wN_bd (t := t) q (sk isL t n q)
    refine c7_wordHere (t := t) (q := q) (e := sk isL t n q) (by rw [rs_same]; exact e15) (by rw [rs_same]; exact e14) (by omega) (fun j a b => by rw [rs_r (by decide)]; exact hall j a b) ?_
    rintro _ rfl
    rw [set30, rs_same, up_same]
    by_cases w : wN t q (sk isL t n q) = -1
    · refine ⟨by omega, fun _ => ?_, fun z => absurd w z⟩
      rw [up_ne (by decide), up_ne (by decide), e14, e15]
      refine ⟨by omega, fun z => ?_, fun z => ?_⟩
      · rintro _ rfl
        rw [set30, rs_same, up_same]
        refine ⟨by decide, fun z2 => absurd rfl z2, fun _ => ?_⟩
        refine c7_nameHere (t := t) (q := q) (e := sk isL t n q) (by rw [up_ne (by decide), up_ne (by decide)]; exact e15) (by rw [up_ne (by decide), up_ne (by decide)]; exact e14) (by omega) hall (fun g2 h7 h8 => ?_)
        refine k g2 (fun j hj => ?_) ?_ ?_ ?_ (Or.inl ?_)
        · rw [h7 j (by omega), up_ne (by omega), up_ne (by omega)]; exact he j (by omega)
        · rw [h7 14 (by decide), up_ne (by decide), up_ne (by decide), tq]; exact e14
        · rw [h7 15 (by decide), up_ne (by decide), up_ne (by decide)]; exact e15
        · rw [h7 16 (by decide), up_same]
          unfold tSq
          rw [if_neg (by omega), if_pos hl, if_pos w, if_neg (by omega)]
        · rw [h8]
          unfold tVq
          rw [if_pos hl, if_pos w]
      · rintro _ rfl
        rw [set30, rs_same, up_same]
        refine ⟨by decide, fun _ => ?_, fun z2 => absurd z2 (by decide)⟩
        have e5 : tSq t n q = 5 := by unfold tSq; rw [if_neg (by omega), if_pos hl, if_pos w, if_pos (by omega)]
        refine k _ (fun j hj => ?_) ?_ ?_ ?_ (Or.inr e5)
        · rw [up_ne (by omega), up_ne (by omega)]; exact he j (by omega)
        · rw [up_ne (by decide), up_ne (by decide), tq]; exact e14
        · rw [up_ne (by decide), up_ne (by decide)]; exact e15
        · rw [up_same, e5]
    · refine ⟨by omega, fun z => absurd z w, fun _ => ?_⟩
      rintro _ rfl
      rw [set30, rs_same, up_same]
      refine ⟨by decide, fun _ => ?_, fun z2 => absurd z2 (by decide)⟩
      refine k _ (fun j hj => ?_) ?_ ?_ ?_ (Or.inl ?_)
      · rw [up_ne (by omega), up_ne (by omega)]; exact he j (by omega)
      · rw [up_ne (by decide), up_ne (by decide), tq]; exact e14
      · rw [up_ne (by decide), up_ne (by decide)]; exact e15
      · rw [up_same]
        unfold tSq
        rw [if_neg (by omega), if_pos hl, if_neg w]
      · rw [up_ne (by decide), up_same]
        unfold tVq
        rw [if_pos hl, if_neg w]
  · have hy := hall (q + m) (by omega) (by omega)
    have hyr : hr t n (g 14) = t (q + m) := by unfold hr; rw [h14, if_pos (by omega)]
    have hbb := hr_bd T.1 (i := g 14) (by omega)
    refine s7_token_64 (c7_here T (by rw [he 13 (by decide)]; exact g13) (by omega) (c7_small (by omega) (fun _ => ⟨by decide, fun z => absurd z (by decide), fun _ => ?_⟩) (fun z => by rw [hyr, hy.2] at z; cases z)))
    rintro _ rfl
    rw [set30, rs_same, h14]
    exact ih _ (fun j hj => by rw [up_ne hj]; exact he j hj) (by rw [up_same]; omega)
/-- digits, and what they say -/
theorem c7_tok162 (T : TR h t n) {K : mH → Prop} {c q : Int} (hq : 0 ≤ q ∧ q ≤ n) {g0 : Int → Int} (g13 : g0 13 = n) (g14 : g0 14 = q) (g17 : g0 17 = 0)
    (k : ∀ g, (∀ j, j ≠ 14 → j ≠ 17 → g j = g0 j) → g 14 = sk isD t n q → g 17 = nvl t n q 0 → K (rs h 30 0 g)) : A7_token_162 K c (rs h 30 0 g0) := by
  have hn := T.1.1
  have hb := sk_bd (P := isD) (t := t) (n := n) (i := q) (by omega)
  have key := upI (P := fun m => ∀ g : Int → Int, (∀ j, j ≠ 14 → j ≠ 17 → g j = g0 j) → g 14 = q + m → (0 ≤ g 17 ∧ g 17 ≤ 999999) → nvl t n (q + m) (g 17) = nvl t n q 0 → A7_token_162 K c (rs h 30 0 g)) (n := sk isD t n q - q) (fun g he h14 h17 hv => ?_) (fun m h5 h6 ih g he h14 h17 hv => ?_) 0 (by omega) (by omega)
  · exact key g0 (fun _ _ _ => rfl) (by omega) (by omega) (by rw [g17, show q + 0 = q by omega])
  · have e14 : g 14 = sk isD t n q := by omega
    have eq0 : q + (sk isD t n q - q) = sk isD t n q := by omega
    have hne : isD (hr t n (g 14)) = false := by
      rw [e14]
      unfold hr
      by_cases z : sk isD t n q < n
      · rw [if_pos z]; exact sk_stop z (by omega)
      · rw [if_neg z]; decide
    have hbb := hr_bd T.1 (i := g 14) (by omega)
    refine s7_token_162 (c7_here T (by rw [he 13 (by decide) (by decide)]; exact g13) (by omega) (c7_digit (by omega) (fun z => by rw [hne] at z; cases z) (fun _ => ⟨by decide, fun _ => k g he e14 ?_, fun z => absurd rfl z⟩)))
    rw [eq0] at hv
    rw [← hv]
    by_cases z : sk isD t n q < n
    · rw [nvl_n (sk_stop z (by omega))]
    · rw [nvl_e (by omega)]
  · have hy : isD (t (q + m)) = true := sk_all (n := n) (i := q) (by omega) (by omega)
    have hyd := isD_t.1 hy
    have hyr : hr t n (g 14) = t (q + m) := by unfold hr; rw [h14, if_pos (by omega)]
    have hbb := hr_bd T.1 (i := g 14) (by omega)
    have hvy := nvl_y (a := g 17) (show q + m < n by omega) hy
    rw [hvy] at hv
    have g13b : g 13 = n := by rw [he 13 (by decide) (by decide)]; exact g13
    refine s7_token_162 (c7_here T g13b (by omega) (c7_digit (by omega) (fun _ => ⟨by decide, fun z => absurd z (by decide), fun _ => ?_⟩) (fun z => by rw [hyr, hy] at z; cases z)))
    rw [rs_same]
    refine ⟨by omega, fun z => ?_, fun z => ?_⟩
    · refine c7_here T g13b (by omega) ?_
      rintro _ rfl _ rfl
      rw [set30, set30, rs_same, up_ne (by decide), hyr, h14]
      rw [if_neg (by omega)] at hv
      refine ih _ (fun j a b => by rw [up_ne a, up_ne b]; exact he j a b) (by rw [up_same]; omega) (by rw [up_ne (by decide), up_same]; omega) ?_
      rw [up_ne (by decide), up_same, show q + (m + 1) = q + m + 1 by omega]
      exact hv
    · rintro _ rfl _ rfl
      rw [set30, set30, rs_same, up_ne (by decide), h14]
      rw [if_pos (by omega)] at hv
      refine ih _ (fun j a b => by rw [up_ne a, up_ne b]; exact he j a b) (by rw [up_same]; omega) (by rw [up_ne (by decide), up_same]; omega) ?_
      rw [up_ne (by decide), up_same, show q + (m + 1) = q + m + 1 by omega]
      exact hv
theorem c7_token (T : TR h t n) {K : mH → Prop} {i : Int} (g13 : h 30 0 13 = n) (g14 : h 30 0 14 = i) (hi : 0 ≤ i ∧ i ≤ n)
    (k : ∀ g, (∀ j, ¬ (14 ≤ j ∧ j ≤ 17) → g j = h 30 0 j) → g 14 = tE t n i → g 15 = tP t n i → g 16 = tS t n i → (tS t n i = 0 ∨ tS t n i = 1 ∨ tS t n i = 2 → g 17 = tV t n i) → K (rs h 30 0 g)) : OkV M7_token [mR 30 0] h K := by
  have hn := T.1.1
  have hb := tP_bd (t := t) hi.2
  have key := upI (P := fun m => ∀ g : Int → Int, (∀ j, j ≠ 14 → g j = h 30 0 j) → g 14 = i + m → A7_token_0 K (rs h 30 0 g)) (n := tP t n i - i) (fun g he h14 => ?_) (fun m h5 h6 ih g he h14 => ?_) 0 (by omega) (by omega)
  · have := key (h 30 0) (fun _ _ => rfl) (by omega)
    rw [rs_self] at this
    exact s7_token this
  · revert k
    unfold tE tS tV
    generalize hq : tP t n i = q at *
    intro k
    have e14 : g 14 = q := by omega
    have e13 : g 13 = n := by rw [he 13 (by decide)]; exact g13
    have hbb := hr_bd T.1 (i := g 14) (by omega)
    have hnb : hr t n (g 14) ≠ 10 ∧ hr t n (g 14) ≠ 32 := by
      rw [e14]
      unfold hr
      by_cases z : q < n
      · rw [if_pos z]
        have hst : isB (t q) = false := by
          rw [← hq]
          exact sk_stop (by show tP t n i < n; omega) hi.2
        have := isB_f.1 hst
        omega
      · rw [if_neg z]; decide
    refine s7_token_0 (c7_here T e13 (by omega) ⟨by omega, fun z => absurd z hnb.1, fun _ => c7_here T e13 (by omega) ⟨by omega, fun _ => ?_, fun z => absurd z hnb.2⟩⟩)
    rintro _ rfl
    rw [set30, rs_same, e14]
    have f13 : up g 15 q 13 = n := by rw [up_ne (by decide)]; exact e13
    have f14 : up g 15 q 14 = q := by rw [up_ne (by decide)]; exact e14
    refine c7_here T f13 (by rw [f14]; omega) ?_
    rw [f14]
    rw [e14] at hbb
    by_cases z : q < n
    · have hrq : hr t n q = t q := by unfold hr; rw [if_pos z]
      have hnn := T.1.2 q (by omega) z
      rw [hrq]
      refine ⟨by omega, fun _ => ?_, fun z2 => by omega⟩
      refine c7_small (by omega) (fun hl => ⟨by decide, fun z2 => absurd z2 (by decide), fun _ => ?_⟩) (fun hl => ⟨by decide, fun _ => ?_, fun z2 => absurd rfl z2⟩)
      · refine c7_tok64 T (q := q) (by omega) hl f13 (up_same _ _ _) f14 (fun g2 h7 h8 h9 h10 h11 => ?_)
        refine k g2 (fun j hj => ?_) h8 h9 h10 (fun w => ?_)
        · rw [h7 j hj, up_ne (by omega)]; exact he j (by omega)
        · rcases h11 with y | y
          · exact y
          · omega
      · refine c7_digit (by omega) (fun hd => ⟨by decide, fun z2 => absurd z2 (by decide), fun _ => ?_⟩) (fun hd => ⟨by decide, fun _ => ?_, fun z2 => absurd rfl z2⟩)
        · rintro _ rfl _ rfl
          rw [set30, set30]
          refine c7_tok162 T (q := q) (by omega) (by rw [up_ne (by decide), up_ne (by decide)]; exact f13) (by rw [up_ne (by decide), up_ne (by decide)]; exact f14) (up_same _ _ _) (fun g2 h7 h8 h9 => ?_)
          have hl2 : ¬ isL (t q) = true := by rw [hl]; decide
          refine k g2 (fun j hj => ?_) ?_ ?_ ?_ (fun _ => ?_)
          · rw [h7 j (by omega) (by omega), up_ne (by omega), up_ne (by omega), up_ne (by omega)]; exact he j (by omega)
          · rw [h8]
            unfold tEq
            rw [if_neg (by omega), if_neg hl2, if_pos hd]
          · rw [h7 15 (by decide) (by decide), up_ne (by decide), up_ne (by decide), up_same]
          · rw [h7 16 (by decide) (by decide), up_ne (by decide), up_same]
            unfold tSq
            rw [if_neg (by omega), if_neg hl2, if_pos hd]
          · rw [h9]
            unfold tVq
            rw [if_neg hl2]
        · have hl2 : ¬ isL (t q) = true := by rw [hl]; decide
          have hd2 : ¬ isD (t q) = true := by rw [hd]; decide
          have eE : tEq t n q = q + 1 := by unfold tEq; rw [if_neg (by omega), if_neg hl2, if_neg hd2]
          have eS : tSq t n q = if t q = 59 then 3 else 5 := by unfold tSq; rw [if_neg (by omega), if_neg hl2, if_neg hd2]
          refine ⟨by omega, fun z2 => ?_, fun z2 => ?_⟩
          · rw [if_neg z2] at eS
            rintro _ rfl _ rfl
            rw [set30, set30, rs_same]
            refine k _ (fun j hj => ?_) ?_ ?_ ?_ (fun w => by omega)
            · rw [up_ne (by omega), up_ne (by omega), up_ne (by omega)]; exact he j (by omega)
            · rw [up_same, up_ne (by decide), f14, eE]
            · rw [up_ne (by decide), up_ne (by decide), up_same]
            · rw [up_ne (by decide), up_same, eS]
          · rw [if_pos z2] at eS
            rintro _ rfl _ rfl
            rw [set30, set30, rs_same]
            refine k _ (fun j hj => ?_) ?_ ?_ ?_ (fun w => by omega)
            · rw [up_ne (by omega), up_ne (by omega), up_ne (by omega)]; exact he j (by omega)
            · rw [up_same, up_ne (by decide), f14, eE]
            · rw [up_ne (by decide), up_ne (by decide), up_same]
            · rw [up_ne (by decide), up_same, eS]
    · have hrq : hr t n q = -1 := by unfold hr; rw [if_neg z]
      rw [hrq]
      have eS : tSq t n q = 4 := by unfold tSq; rw [if_pos (by omega)]
      refine ⟨by decide, fun z2 => absurd rfl z2, fun _ => ?_⟩
      rintro _ rfl
      rw [set30]
      refine k _ (fun j hj => ?_) ?_ ?_ ?_ (fun w => by omega)
      · rw [up_ne (by omega), up_ne (by omega)]; exact he j (by omega)
      · rw [up_ne (by decide), f14]
        unfold tEq
        rw [if_pos (by omega)]
      · rw [up_ne (by decide), up_same]
      · rw [up_same, eS]
  · have hbl : isB (t (i + m)) = true := sk_all (n := n) (i := i) (by omega) (by show i + m < tP t n i; omega)
    have hb2 := isB_t.1 hbl
    have e13 : g 13 = n := by rw [he 13 (by decide)]; exact g13
    have hyr : hr t n (g 14) = t (i + m) := by unfold hr; rw [h14, if_pos (by omega)]
    have nx : ∀ h2 : mH, h2 = mSet (rs h 30 0 g) 30 0 14 (rs h 30 0 g 30 0 14 + 1) → A7_token_0 K h2 := by
      rintro _ rfl
      rw [set30, rs_same, h14]
      exact ih _ (fun j hj => by rw [up_ne hj]; exact he j hj) (by rw [up_same]; omega)
    refine s7_token_0 (c7_here T e13 (by omega) ?_)
    rw [hyr]
    refine ⟨by omega, fun _ => nx, fun z => c7_here T e13 (by omega) ?_⟩
    rw [hyr]
    exact ⟨by omega, fun z2 => by omega, fun _ => nx⟩
end TOKR
