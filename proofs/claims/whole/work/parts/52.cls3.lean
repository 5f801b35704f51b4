/-! the class: joins, risks, draws -/
section CLS3
variable {h h2 : mH} {b c : Int} {p : Pn} {s nm : Int → Int}
theorem joS_off (hp : WfP p) (hs : WfS p s) {f l : Int} (h0 : 0 ≤ f) (h1 : f < nf p) (h2 : 0 ≤ l) (h3 : l + 1 < lv p f) {j : Int} (hj : j < 280 ∨ 304 ≤ j) : joS s f l j = joX s f l j := by
  have hn := hp.1.1
  have hb := hp.2 f h0 h1
  have hJ := joX_J hp hs.j h0 h1 h2 h3
  have hlb := la_bd hp hJ h0 h1 h2 (by omega)
  have hfb := fs_le (s := joX s f l) (f := f) h2
  unfold joS
  split
  · rfl
  · unfold reS
    rw [if_neg (by omega)]
theorem joX_ne {f l j : Int} (hj : j ≠ 304 + f) : joX s f l j = s j := by unfold joX; exact up_ne hj
/-- a book whose joins and relativities are others -/
theorem Bk.jo (B : Bk h b p s) {t : Int → Int} (hw : WfS p t) (e : ∀ j, 0 ≤ j → (j < 280 ∨ 308 ≤ j) → t j = s j) (x : Int) (hx : ∀ f, 0 ≤ f → f < nf p → ∀ l, 0 ≤ l → l < 8 → jb x (8 * f + l) = jb (t (304 + f)) l) (g : Int → Int) (hg : ∀ f, 0 ≤ f → f < nf p → ∀ l, 0 ≤ l → l < lv p f → g (8 * f + l) = t (280 + 6 * f + l)) : Bk (rs (rs h 1 b (up (h 1 b) 6 x)) 6 b g) b p t := by
  obtain ⟨b1, b2, b3, b4, b5, b6⟩ := B
  have hm := b6.1.1
  refine ⟨?_, fun f a d l a2 d2 => ?_, fun q a d => ?_, fun f a d l a2 d2 => ?_, b5, hw⟩
  · unfold BN
    rw [rs_r (by decide), rs_same, up_ne (by decide), up_ne (by decide), up_ne (by decide), up_ne (by decide), up_ne (by decide), up_ne (by decide), e 310 (by omega) (by omega), e 308 (by omega) (by omega), e 309 (by omega) (by omega), e 311 (by omega) (by omega), e 312 (by omega) (by omega), e 313 (by omega) (by omega)]
    exact b1
  · rw [rs_r (by decide), rs_same, up_same]
    exact hx f a d l a2 d2
  · rw [e 310 (by omega) (by omega)] at d
    rw [rs_r (by decide), rs_r (by decide), rs_r (by decide), rs_r (by decide), rs_r (by decide), rs_r (by decide), rs_r (by decide), rs_r (by decide)]
    unfold pkL
    rw [e (7 * q + 0) (by omega) (by omega), e (7 * q + 1) (by omega) (by omega), e (7 * q + 2) (by omega) (by omega), e (7 * q + 3 + 0) (by omega) (by omega), e (7 * q + 3 + 1) (by omega) (by omega), e (7 * q + 3 + 2) (by omega) (by omega), e (7 * q + 3 + 3) (by omega) (by omega)]
    exact b3 q a d
  · rw [rs_same]
    exact hg f a d l a2 d2
theorem k0_part (B : Bk h b p s) {K : mH → Prop} {f l : Int} (h0 : 0 ≤ f) (h1 : f < nf p) (h2 : 0 ≤ l) (h3 : l + 1 < lv p f) (hj : jb (s (304 + f)) l = true) (k : ∀ h2, Bk h2 b p (joS s f l) → FrB b h h2 → K h2) : OkV M0_part [mR 1 b, mI f, mI l] h K := by
  have hp := B.wp
  have hs := B.wf
  have hn := hp.1.1
  have hb := hp.2 f h0 h1
  refine s0_part (k_slot (by omega) (by omega) ?_)
  rintro _ rfl
  rw [mSet_rs]
  have ejo : joS s f l = joX s f l := by unfold joS; rw [if_pos hj]
  have e6 : ∀ g : Int → Int, rs (rs h 1 b g) 6 b (h 6 b) = rs h 1 b g := fun g => by
    have := rs_self (rs h 1 b g) 6 b
    rwa [rs_r (by decide)] at this
  have key := B.jo (joS_wf hp hs h0 h1 h2 h3) (fun j a d => by rw [ejo]; exact joX_ne (by omega)) (mAnd (h 1 b 6) (mXor (mShl 1 (8 * f + l)) (-1))) (fun g a c m d e => ?_) (h 6 b) (fun g a c m d e => ?_)
  · rw [e6] at key
    exact k _ key (frB_rs (by decide))
  · rw [jb_andn (by omega) (by omega) (by omega) (by omega), B.j g a c m d e, ejo]
    by_cases x : g = f
    · subst x
      rw [joX_jb (by omega) (by omega)]
      by_cases y : m = l
      · subst y; rw [hj]; simp
      · rw [decide_eq_false (by omega), decide_eq_false y]; simp
    · rw [joX_ne (by omega), decide_eq_false (by omega)]; simp
  · have hg := hp.2 g a c
    rw [ejo, joX_ne (by omega)]
    exact B.l a c d e
theorem k0_joinToNext (B : Bk h b p s) {K : mH → Prop} {f l : Int} (h0 : 0 ≤ f) (h1 : f < nf p) (h2 : 0 ≤ l) (h3 : l + 1 < lv p f) (hj : jb (s (304 + f)) l = false) (k : ∀ h2, Bk h2 b p (joS s f l) → FrB b h h2 → K h2) : OkV M0_joinToNext [mR 1 b, mI f, mI l] h K := by
  have hp := B.wp
  have hs := B.wf
  have hn := hp.1.1
  have hb := hp.2 f h0 h1
  have hJ := joX_J hp hs.j h0 h1 h2 h3
  have hlb := la_bd hp hJ h0 h1 h2 (by omega)
  have hfb := fs_le (s := joX s f l) (f := f) h2
  have ejo : joS s f l = reS (joX s f l) f l (s (280 + 6 * f + l)) := by unfold joS; rw [hj]; rfl
  refine s0_joinToNext (s0_mark (k_slot (by omega) (by omega) ?_))
  rintro _ rfl
  have hx : ∀ g, 0 ≤ g → g < nf p → ∀ m, 0 ≤ m → m < 8 → jb (mOr (h 1 b 6) (mShl 1 (8 * f + l))) (8 * g + m) = jb (joX s f l (304 + g)) m := by
    intro g a c m d e
    rw [jb_or (by omega) (by omega) (by omega) (by omega), B.j g a c m d e]
    by_cases x : g = f
    · subst x
      rw [joX_jb (by omega) (by omega)]
      by_cases y : m = l
      · subst y; rw [hj]; simp
      · rw [decide_eq_false (by omega), decide_eq_false y]; simp
    · rw [joX_ne (by omega), decide_eq_false (by omega)]; simp
  rw [mSet_rs]
  refine k_slot (by omega) (by omega) ⟨by omega, ?_⟩
  have B1 : BJ (rs h 1 b (up (h 1 b) 6 (mOr (h 1 b 6) (mShl 1 (8 * f + l))))) b p (joX s f l) := by
    intro g a c m d e
    rw [rs_same, up_same]
    exact hx g a c m d e
  refine k0_setClass B1 hp hJ h0 h1 h2 (by omega) ?_
  rw [rs_r (by decide), B.l h0 h1 h2 (by omega)]
  refine k _ (B.jo (joS_wf hp hs h0 h1 h2 h3) (fun j a d => by rw [joS_off hp hs h0 h1 h2 h3 (by omega)]; exact joX_ne (by omega)) _ (fun g a c m d e => by rw [joS_off hp hs h0 h1 h2 h3 (by omega)]; exact hx g a c m d e) _ (fun g a c m d e => ?_)) ((frB_rs (by decide)).tr (frB_rs (by decide)))
  have hg := hp.2 g a c
  rw [ejo]
  unfold stR reS
  by_cases x : g = f
  · subst x
    by_cases y : fs (joX s g l) g l ≤ m ∧ m ≤ la (joX s g l) g l
    · rw [if_pos (by omega), if_pos (by omega)]
    · rw [if_neg (by omega), if_neg (by omega), joX_ne (by omega)]
      exact B.l a c d e
  · rw [if_neg (by omega), if_neg (by omega), joX_ne (by omega)]
    exact B.l a c d e
theorem k0_setAll (B : Bk h b p s) {K : mH → Prop} {f : Int} (h0 : 0 ≤ f) (h1 : f < nf p) (k : ∀ h2, Bk h2 b p (alS p s f) → FrB b h h2 → K h2) : OkV M0_setAll [mR 1 b, mI f, mI 10000] h K := by
  have hp := B.wp
  have hs := B.wf
  have hn := hp.1.1
  have hb := hp.2 f h0 h1
  have key := upI (P := fun q => A0_setAll_2 K b f 10000 q (rs h 6 b (stR (h 6 b) f 0 q 10000))) (n := 6) ?_ (fun q h5 h6 ih => ?_) 0 (by omega) (by omega)
  · have e : stR (h 6 b) f 0 0 10000 = h 6 b := by
      funext j
      unfold stR
      rw [if_neg (by omega)]
    rw [e, rs_self] at key
    exact s0_setAll key
  · refine s0_setAll_2 ⟨by decide, fun _ => k _ (B.rel (alS_wf hp hs h0 h1) (fun j _ hj => by unfold alS alU; rw [if_neg (by omega)]) (fun g a c m d e => ?_)) (frB_rs (by decide)), fun z => absurd (Int.le_refl _) z⟩
    have hg := hp.2 g a c
    unfold stR alS alU
    by_cases x : g = f
    · subst x
      rw [if_pos (by omega), if_pos (by omega)]
    · rw [if_neg (by omega), if_neg (by omega)]
      exact B.l a c d e
  · refine s0_setAll_2 ⟨by omega, fun z => by omega, fun _ => k_slot (by omega) (by omega) ⟨by omega, ?_⟩⟩
    rintro _ rfl
    rw [mSet_rs, rs_same, rs_rs]
    have e : up (stR (h 6 b) f 0 q 10000) (8 * f + q) 10000 = stR (h 6 b) f 0 (q + 1) 10000 := by
      funext j
      unfold up stR
      by_cases c : j = 8 * f + q
      · rw [if_pos c, if_pos (by omega)]
      · rw [if_neg c]
        by_cases d : 8 * f + 0 ≤ j ∧ j < 8 * f + q
        · rw [if_pos d, if_pos (by omega)]
        · rw [if_neg d, if_neg (by omega)]
    rw [e]
    exact ih
/-- a row with a place taken out -/
def shf (g : Int → Int) (x q : Int) : Int → Int := fun j => if x ≤ j ∧ j < q then g (j + 1) else g j
theorem shf_s {g : Int → Int} {x q : Int} (hx : x ≤ q) : up (shf g x q) q (shf g x q (q + 1)) = shf g x (q + 1) := by
  funext j
  unfold up shf
  by_cases c : j = q
  · rw [if_pos c, if_neg (by omega), if_pos (by omega), c]
  · rw [if_neg c]
    by_cases d : x ≤ j ∧ j < q
    · rw [if_pos d, if_pos (by omega)]
    · rw [if_neg d, if_neg (by omega)]
theorem shf_0 (g : Int → Int) (x : Int) : shf g x x = g := by
  funext j
  unfold shf
  rw [if_neg (by omega)]
/-- four rows of book b, and its count -/
def hR (h : mH) (b n : Int) (g2 g3 g4 g5 : Int → Int) : mH := rs (rs (rs (rs (rs h 1 b (up (h 1 b) 0 n)) 2 b g2) 3 b g3) 4 b g4) 5 b g5
theorem hR_1 {n : Int} {g2 g3 g4 g5 : Int → Int} : hR h b n g2 g3 g4 g5 1 b = up (h 1 b) 0 n := by unfold hR; rw [rs_r (by decide), rs_r (by decide), rs_r (by decide), rs_r (by decide), rs_same]
theorem hR_2 {n : Int} {g2 g3 g4 g5 : Int → Int} : hR h b n g2 g3 g4 g5 2 b = g2 := by unfold hR; rw [rs_r (by decide), rs_r (by decide), rs_r (by decide), rs_same]
theorem hR_3 {n : Int} {g2 g3 g4 g5 : Int → Int} : hR h b n g2 g3 g4 g5 3 b = g3 := by unfold hR; rw [rs_r (by decide), rs_r (by decide), rs_same]
theorem hR_4 {n : Int} {g2 g3 g4 g5 : Int → Int} : hR h b n g2 g3 g4 g5 4 b = g4 := by unfold hR; rw [rs_r (by decide), rs_same]
theorem hR_5 {n : Int} {g2 g3 g4 g5 : Int → Int} : hR h b n g2 g3 g4 g5 5 b = g5 := by unfold hR; rw [rs_same]
theorem hR_6 {n : Int} {g2 g3 g4 g5 : Int → Int} : hR h b n g2 g3 g4 g5 6 b = h 6 b := by unfold hR; rw [rs_r (by decide), rs_r (by decide), rs_r (by decide), rs_r (by decide), rs_r (by decide)]
theorem hR_fr {n : Int} {g2 g3 g4 g5 : Int → Int} : FrB b h (hR h b n g2 g3 g4 g5) := ((((frB_rs (by decide)).tr (frB_rs (by decide))).tr (frB_rs (by decide))).tr (frB_rs (by decide))).tr (frB_rs (by decide))
theorem hR_s2 {n k v : Int} {g2 g3 g4 g5 : Int → Int} : mSet (hR h b n g2 g3 g4 g5) 2 b k v = hR h b n (up g2 k v) g3 g4 g5 := by
  rw [mSet_rs, hR_2]
  unfold hR
  rw [rs_comm (r := 5) (by decide), rs_comm (r := 4) (by decide), rs_comm (r := 3) (by decide), rs_rs]
theorem hR_s3 {n k v : Int} {g2 g3 g4 g5 : Int → Int} : mSet (hR h b n g2 g3 g4 g5) 3 b k v = hR h b n g2 (up g3 k v) g4 g5 := by
  rw [mSet_rs, hR_3]
  unfold hR
  rw [rs_comm (r := 5) (by decide), rs_comm (r := 4) (by decide), rs_rs]
theorem hR_s4 {n k v : Int} {g2 g3 g4 g5 : Int → Int} : mSet (hR h b n g2 g3 g4 g5) 4 b k v = hR h b n g2 g3 (up g4 k v) g5 := by
  rw [mSet_rs, hR_4]
  unfold hR
  rw [rs_comm (r := 5) (by decide), rs_rs]
theorem hR_s5 {n k v : Int} {g2 g3 g4 g5 : Int → Int} : mSet (hR h b n g2 g3 g4 g5) 5 b k v = hR h b n g2 g3 g4 (up g5 k v) := by
  rw [mSet_rs, hR_5]
  unfold hR
  rw [rs_rs]
theorem hR_s1 {n v : Int} {g2 g3 g4 g5 : Int → Int} : mSet (hR h b n g2 g3 g4 g5) 1 b 0 v = hR h b v g2 g3 g4 g5 := by
  rw [mSet_rs, hR_1, up_up]
  unfold hR
  rw [rs_comm (r := 5) (by decide), rs_comm (r := 4) (by decide), rs_comm (r := 3) (by decide), rs_comm (r := 2) (by decide), rs_rs]
theorem hR_of (h : mH) (b : Int) : h = hR h b (h 1 b 0) (h 2 b) (h 3 b) (h 4 b) (h 5 b) := by
  unfold hR
  rw [up_self, rs_self, rs_self]
  have e3 : rs h 3 b (h 3 b) = h := rs_self h 3 b
  rw [e3, rs_self, rs_self]
theorem Bk.rows (B : Bk h b p s) {t : Int → Int} (hw : WfS p t) (e : ∀ j, 280 ≤ j → j ≠ 310 → t j = s j) {g2 g3 g4 g5 : Int → Int} (hg : ∀ r, 0 ≤ r → r < t 310 → g2 r = t (7 * r + 0) ∧ g3 r = t (7 * r + 1) ∧ g4 r = t (7 * r + 2) ∧ g5 r = pkL t r) : Bk (hR h b (t 310) g2 g3 g4 g5) b p t := by
  obtain ⟨b1, b2, b3, b4, b5, b6⟩ := B
  refine ⟨?_, fun f a d l a2 d2 => ?_, fun q a d => ?_, fun f a d l a2 d2 => ?_, b5, hw⟩
  · unfold BN
    rw [hR_1, up_same, up_ne (by decide), up_ne (by decide), up_ne (by decide), up_ne (by decide), up_ne (by decide), e 308 (by omega) (by omega), e 309 (by omega) (by omega), e 311 (by omega) (by omega), e 312 (by omega) (by omega), e 313 (by omega) (by omega)]
    exact ⟨rfl, b1.2⟩
  · rw [hR_1, up_ne (by decide), e (304 + f) (by omega) (by have := b5.1.1; omega)]
    exact b2 f a d l a2 d2
  · rw [hR_2, hR_3, hR_4, hR_5]
    exact hg q a d
  · have hf := b5.2 f a d
    rw [hR_6, e (280 + 6 * f + l) (by omega) (by have := b5.1.1; omega)]
    exact b4 f a d l a2 d2
theorem k0_removeRisk (B : Bk h b p s) {K : mH → Prop} {x : Int} (h0 : 0 ≤ x) (h1 : x < s 310) (k : ∀ h2, Bk h2 b p (goS s x) → FrB b h h2 → K h2) : OkV M0_removeRisk [mR 1 b, mI x] h K := by
  have hp := B.wp
  have hs := B.wf
  have hm := B.m40
  have e310 : goS s x 310 = s 310 - 1 := by unfold goS; rw [if_pos rfl]
  refine s0_removeRisk (k0_hasRisk B (by omega) (fun _ _ => ⟨by decide, fun _ => ?_, fun w => absurd w (by decide)⟩) (fun z => absurd ⟨h0, h1⟩ z))
  rintro _ rfl
  rw [B.m]
  have start : mSet h 1 b 0 (s 310 - 1) = hR h b (s 310 - 1) (shf (h 2 b) x x) (shf (h 3 b) x x) (shf (h 4 b) x x) (shf (h 5 b) x x) := by
    rw [shf_0, shf_0, shf_0, shf_0]
    conv => lhs; rw [hR_of h b]
    rw [hR_s1]
  rw [start]
  refine upI (P := fun q => x ≤ q → A0_removeRisk_21 K b x q (hR h b (s 310 - 1) (shf (h 2 b) x q) (shf (h 3 b) x q) (shf (h 4 b) x q) (shf (h 5 b) x q))) (n := s 310 - 1) (fun _ => ?_) (fun q h5 h6 ih hq => ?_) x h0 (by omega) (Int.le_refl _)
  · refine s0_removeRisk_21 ?_
    rw [hR_1, up_same]
    refine ⟨by omega, fun _ => ?_, fun z => absurd (Int.le_refl _) z⟩
    have key := B.rows (goS_wf hp hs h0 h1) (fun j a c => by unfold goS; rw [if_neg c, if_neg (by omega), if_neg (by omega)]) (g2 := shf (h 2 b) x (s 310 - 1)) (g3 := shf (h 3 b) x (s 310 - 1)) (g4 := shf (h 4 b) x (s 310 - 1)) (g5 := shf (h 5 b) x (s 310 - 1)) (fun r a c => ?_)
    · rw [e310] at key
      exact k _ key hR_fr
    · rw [e310] at c
      unfold shf
      by_cases d : x ≤ r
      · rw [if_pos (by omega), if_pos (by omega), if_pos (by omega), if_pos (by omega)]
        have h7 := B.rk (r := r + 1) (by omega) (by omega)
        have ee : ∀ j, 0 ≤ j → j < 7 → goS s x (7 * r + j) = s (7 * (r + 1) + j) := by
          intro j d g
          unfold goS
          rw [if_neg (by omega), if_pos (by omega), show 7 * r + j + 7 = 7 * (r + 1) + j by omega]
        have e5 : pkL (goS s x) r = pkL s (r + 1) := by
          unfold pkL
          rw [show 7 * r + 3 + 0 = 7 * r + 3 by omega, show 7 * r + 3 + 1 = 7 * r + 4 by omega, show 7 * r + 3 + 2 = 7 * r + 5 by omega, show 7 * r + 3 + 3 = 7 * r + 6 by omega, ee 3 (by omega) (by omega), ee 4 (by omega) (by omega), ee 5 (by omega) (by omega), ee 6 (by omega) (by omega), show 7 * (r + 1) + 3 + 0 = 7 * (r + 1) + 3 by omega, show 7 * (r + 1) + 3 + 1 = 7 * (r + 1) + 4 by omega, show 7 * (r + 1) + 3 + 2 = 7 * (r + 1) + 5 by omega, show 7 * (r + 1) + 3 + 3 = 7 * (r + 1) + 6 by omega]
        rw [e5, ee 0 (by omega) (by omega), ee 1 (by omega) (by omega), ee 2 (by omega) (by omega)]
        exact h7
      · rw [if_neg (by omega), if_neg (by omega), if_neg (by omega), if_neg (by omega)]
        have h7 := B.rk (r := r) (by omega) (by omega)
        have ee : ∀ j, 0 ≤ j → j < 7 → goS s x (7 * r + j) = s (7 * r + j) := by
          intro j d g
          unfold goS
          rw [if_neg (by omega), if_neg (by omega), if_neg (by omega)]
        have e5 : pkL (goS s x) r = pkL s r := by
          unfold pkL
          rw [show 7 * r + 3 + 0 = 7 * r + 3 by omega, show 7 * r + 3 + 1 = 7 * r + 4 by omega, show 7 * r + 3 + 2 = 7 * r + 5 by omega, show 7 * r + 3 + 3 = 7 * r + 6 by omega, ee 3 (by omega) (by omega), ee 4 (by omega) (by omega), ee 5 (by omega) (by omega), ee 6 (by omega) (by omega)]
        rw [e5, ee 0 (by omega) (by omega), ee 1 (by omega) (by omega), ee 2 (by omega) (by omega)]
        exact h7
  · refine s0_removeRisk_21 ?_
    rw [hR_1, up_same]
    refine ⟨by omega, fun z => by omega, fun _ => ⟨by omega, by omega, ?_⟩⟩
    rintro _ rfl
    refine ⟨by omega, by omega, ?_⟩
    rintro _ rfl
    refine ⟨by omega, by omega, ?_⟩
    rintro _ rfl
    refine ⟨by omega, by omega, ?_⟩
    rintro _ rfl
    rw [hR_2, hR_s2, hR_3, hR_s3, hR_4, hR_s4, hR_5, hR_s5, shf_s hq, shf_s hq, shf_s hq, shf_s hq]
    exact ih (by omega)
theorem k0_addRisk (B : Bk h b p s) {K : mH → Prop} {e cl o x : Int} (h40 : s 310 < 40) (he : 1 ≤ e ∧ e ≤ 99) (hc : 0 ≤ cl ∧ cl ≤ 99999) (ho : 1 ≤ o ∧ o ≤ 99999) (hx : vld p x) (k : ∀ h2, Bk h2 b p (adS s e cl o x) → FrB b h h2 → K h2) : OkV M0_addRisk [mR 1 b, mI e, mI cl, mI o, mI x] h K := by
  have hp := B.wp
  have hs := B.wf
  have hm := B.m40
  have e310 : adS s e cl o x 310 = s 310 + 1 := by unfold adS; rw [if_pos rfl]
  have key := B.rows (adS_wf hp hs h40 he hc ho hx) (fun j a d => by unfold adS; rw [if_neg d, if_neg (by omega), if_neg (by omega), if_neg (by omega), if_neg (by omega)]) (g2 := up (h 2 b) (s 310) e) (g3 := up (h 3 b) (s 310) cl) (g4 := up (h 4 b) (s 310) o) (g5 := up (h 5 b) (s 310) x) (fun r a d => ?_)
  · refine s0_addRisk ?_
    rw [B.m]
    refine ⟨by omega, fun z => by omega, fun _ => ⟨by omega, ?_⟩⟩
    rintro _ rfl
    have e1 : mSet h 2 b (s 310) e = hR h b (s 310) (up (h 2 b) (s 310) e) (h 3 b) (h 4 b) (h 5 b) := by
      have e0 := hR_of h b
      rw [B.m] at e0
      conv => lhs; rw [e0]
      rw [hR_s2]
    rw [e1, hR_1, up_same]
    refine ⟨by omega, ?_⟩
    rintro _ rfl
    rw [hR_s3, hR_1, up_same]
    refine ⟨by omega, ?_⟩
    rintro _ rfl
    rw [hR_s4, hR_1, up_same]
    refine ⟨by omega, ?_⟩
    rintro _ rfl
    rw [hR_s5]
    rintro _ rfl
    rw [hR_1, up_same, hR_s1]
    rw [e310] at key
    exact k _ key hR_fr
  · rw [e310] at d
    by_cases c : r = s 310
    · subst c
      rw [up_same, up_same, up_same, up_same]
      have a0 : adS s e cl o x (7 * s 310 + 0) = e := by unfold adS; rw [if_neg (by omega), if_pos rfl]
      have a1 : adS s e cl o x (7 * s 310 + 1) = cl := by unfold adS; rw [if_neg (by omega), if_neg (by omega), if_pos rfl]
      have a2 : adS s e cl o x (7 * s 310 + 2) = o := by unfold adS; rw [if_neg (by omega), if_neg (by omega), if_neg (by omega), if_pos rfl]
      have a3 : ∀ f, 0 ≤ f → f < 4 → adS s e cl o x (7 * s 310 + 3 + f) = dg x f := by
        intro f g i
        unfold adS
        rw [if_neg (by omega), if_neg (by omega), if_neg (by omega), if_neg (by omega), if_pos (by omega), show 7 * s 310 + 3 + f - (7 * s 310 + 3) = f by omega]
      refine ⟨a0.symm, a1.symm, a2.symm, ?_⟩
      unfold pkL
      rw [a3 0 (by decide) (by decide), a3 1 (by decide) (by decide), a3 2 (by decide) (by decide), a3 3 (by decide) (by decide)]
      have x0 := hx.1
      have x1 := hx.2.2
      show x = x / 1 % 8 + 8 * (x / 8 % 8) + 64 * (x / 64 % 8) + 512 * (x / 512 % 8)
      omega
    · rw [up_ne c, up_ne c, up_ne c, up_ne c]
      have h7 := B.rk (r := r) (by omega) (by omega)
      have ee : ∀ j, 0 ≤ j → j < 7 → adS s e cl o x (7 * r + j) = s (7 * r + j) := by
        intro j d g
        unfold adS
        rw [if_neg (by omega), if_neg (by omega), if_neg (by omega), if_neg (by omega), if_neg (by omega)]
      have e5 : pkL (adS s e cl o x) r = pkL s r := by
        unfold pkL
        rw [show 7 * r + 3 + 0 = 7 * r + 3 by omega, show 7 * r + 3 + 1 = 7 * r + 4 by omega, show 7 * r + 3 + 2 = 7 * r + 5 by omega, show 7 * r + 3 + 3 = 7 * r + 6 by omega, ee 3 (by omega) (by omega), ee 4 (by omega) (by omega), ee 5 (by omega) (by omega), ee 6 (by omega) (by omega)]
      rw [e5, ee 0 (by omega) (by omega), ee 1 (by omega) (by omega), ee 2 (by omega) (by omega)]
      exact h7
end CLS3
