/-! the reference: what would be -/
section REF13
variable {p : Pn} {s : Int → Int} {h : mH}
theorem c7_goesAside {K : mH → Prop} (e : h 41 0 = s) (k : K (rs h 42 0 s)) : OkV M7_goesAside [mR 30 0] h K := s7_goesAside (c7_copiesAll ro_41 ro_42 (by decide) (fun j _ _ => by rw [e]) k)
theorem c7_comesBack {K : mH → Prop} (e : h 42 0 = s) (k : K (rs h 41 0 s)) : OkV M7_comesBack [mR 30 0] h K := s7_comesBack (c7_copiesAll ro_42 ro_41 (by decide) (fun j _ _ => by rw [e]) k)
/-- aside, then another row, then back: only row 42 is another -/
theorem aside_back (e : h 41 0 = s) (t : Int → Int) : rs (rs (rs h 42 0 s) 41 0 t) 41 0 s = rs h 42 0 s := by
  rw [rs_rs]
  funext r i
  by_cases c : r = 41 ∧ i = 0
  · obtain ⟨rfl, rfl⟩ := c
    rw [rs_same, rs_r (by decide), e]
  · show (if r = 41 ∧ i = 0 then s else rs h 42 0 s r i) = rs h 42 0 s r i
    rw [if_neg c]
theorem Rf.as (R : Rf h p s) : Rf (rs h 42 0 s) p s := R.fr (fun r hr => rs_r (by omega))
def moP (p : Pn) (s : Int → Int) (o : Int) : Bool := decide (whl s ≤ sm (pr p (up s 313 o)) (s 310))
def mo (p : Pn) (s : Int → Int) : Int := gr (moP p s) 501
theorem c7_mostOff (R : Rf h p s) {K : Int → mH → Prop} (k : K (mo p s) h) : A7_mostOff_29 K (s 313) (whl s) (-2) 500 h := by
  have hp := R.2.2.1
  have hs := R.2.2.2
  have hw := whl_bd hs
  have back : ∀ t : Int → Int, (∀ j, j ≠ 313 → t j = s j) → rs (rs h 41 0 t) 41 0 (up t 313 (s 313)) = h := by
    intro t ht
    have e : up t 313 (s 313) = h 41 0 := by
      rw [R.es]
      funext j
      unfold up
      by_cases c : j = 313
      · rw [if_pos c, c]
      · rw [if_neg c]; exact ht j c
    rw [rs_rs, e, rs_self]
  have key : ∀ n : Nat, n ≤ 501 → (∀ j : Int, n ≤ j → j < 501 → moP p s j = false) → ∀ t : Int → Int, (∀ j, j ≠ 313 → t j = s j) → A7_mostOff_29 K (s 313) (whl s) (-2) ((n : Int) - 1) (rs h 41 0 t) := by
    intro n
    induction n with
    | zero =>
      intro _ hj t ht
      refine s7_mostOff_29 ⟨by omega, fun _ => ?_, fun z => absurd (by omega) z⟩
      rintro _ rfl
      rw [mSet_rs, rs_same, back t ht]
      rw [show mo p s = -2 from gr_no (fun i a b => hj i (by omega) b)] at k
      exact k
    | succ n ih =>
      intro hn hj t ht
      rw [show ((n + 1 : Nat) : Int) - 1 = (n : Int) by omega]
      refine s7_mostOff_29 ⟨by omega, fun z => by omega, fun _ => ⟨by decide, fun z => absurd rfl z, fun _ => ?_⟩⟩
      rintro _ rfl
      have et : up t 313 (n : Int) = up s 313 (n : Int) := by
        funext j
        unfold up
        by_cases c : j = 313
        · rw [if_pos c, if_pos c]
        · rw [if_neg c, if_neg c, ht j c]
      rw [mSet_rs, rs_same, rs_rs, et]
      have hw2 : WfS p (up s 313 (n : Int)) := hs.off hp (by omega)
      have Q := R.row hw2
      have hb := paid_bd hp hw2
      have e310 : up s 313 (n : Int) 310 = s 310 := up_ne (by decide)
      rw [e310] at hb
      refine c7_paid Q ?_
      rw [e310]
      have nx : ∀ x4, ¬ x4 = -2 → mInR x4 → K x4 h → A7_mostOff_29 K (s 313) (whl s) x4 ((n : Int) + -1) (rs h 41 0 (up s 313 (n : Int))) := by
        intro x4 hx hr kk
        have bk := back (up s 313 (n : Int)) (fun j hj => up_ne hj)
        refine s7_mostOff_29 ⟨by omega, fun _ => ?_, fun _ => ⟨?_, fun _ => ?_, fun z => absurd z hx⟩⟩
        · rintro _ rfl
          rw [mSet_rs, rs_same, bk]; exact kk
        · exact hr
        · rintro _ rfl
          rw [mSet_rs, rs_same, bk]; exact kk
      refine ⟨by omega, fun z => ?_, fun z => ?_⟩
      · have := ih (by omega) (fun j a b => ?_) (up s 313 (n : Int)) (fun j hj => up_ne hj)
        · rw [show (n : Int) - 1 = (n : Int) + -1 by omega] at this
          exact this
        · by_cases c : j = (n : Int)
          · rw [c]; exact decide_eq_false (by omega)
          · exact hj j (by omega) b
      · refine nx n (by omega) (by omega) ?_
        rw [show mo p s = (n : Int) from gr_yes (by omega) (by omega) (decide_eq_true (by omega)) (fun j a b => hj j (by omega) b)] at k
        exact k
  have := key 501 (by omega) (fun j a b => by omega) (h 41 0) (fun j _ => by rw [R.es])
  rw [rs_self] at this
  exact this
theorem pr_309 (p : Pn) (s : Int → Int) (c : Int) {r : Int} (hp : WfP p) (hs : WfS p s) (h0 : 0 ≤ r) (h1 : r < s 310) : pr p (up s 309 c) r = pr p s r := by
  have hm := hs.1.1
  have hn := hp.1.1
  have hr := hs.2.1 r h0 h1
  refine pr_congr (up_ne (by decide)) (up_ne (by decide)) (up_ne (by decide)) (up_ne (by omega)) (fun f a b => up_ne (by omega)) (fun f a b => ?_)
  have h3 := hr.2.2.2 f a (by omega)
  have h4 := hp.2 f a b
  have h5 := h3.2.1 b
  exact up_ne (by omega)
theorem alc_309 (p : Pn) (s : Int → Int) (c d f : Int) (hp : WfP p) (hs : WfS p s) : alc p (up s 309 c) d f = alc p s d f := by
  have hm := hs.1.1
  unfold alc
  rw [up_ne (by decide)]
  refine sm_congr (fun r a b => ?_)
  unfold cpd raw lee
  rw [pr_309 p s c hp hs a b, up_ne (by omega)]
def lcP (p : Pn) (s : Int → Int) (c : Int) : Bool := decide (whl s ≤ alc p s c 99999)
def lc (p : Pn) (s : Int → Int) : Int := ls (lcP p s) 1000
theorem c7_leastCap (R : Rf h p s) {K : Int → mH → Prop} (k : K (lc p s) h) : A7_leastCap_27 K (s 309) (whl s) (-2) 0 h := by
  have hp := R.2.2.1
  have hs := R.2.2.2
  have hw := whl_bd hs
  have back : ∀ t : Int → Int, (∀ j, j ≠ 309 → t j = s j) → rs (rs h 41 0 t) 41 0 (up t 309 (s 309)) = h := by
    intro t ht
    have e : up t 309 (s 309) = h 41 0 := by
      rw [R.es]
      funext j
      unfold up
      by_cases c : j = 309
      · rw [if_pos c, c]
      · rw [if_neg c]; exact ht j c
    rw [rs_rs, e, rs_self]
  have fin : ∀ x4 x5 : Int, ∀ t : Int → Int, (∀ j, j ≠ 309 → t j = s j) → mInR x4 → (0 ≤ x5 ∧ x5 ≤ 1000) → (¬ x4 = -2 ∨ 999 < x5) → K x4 h → A7_leastCap_27 K (s 309) (whl s) x4 x5 (rs h 41 0 t) := by
    intro x4 x5 t ht h4 h5 ho kk
    refine s7_leastCap_27 ⟨by omega, fun _ => ?_, fun z => ⟨h4, fun _ => ?_, fun z2 => by omega⟩⟩
    · rintro _ rfl
      rw [mSet_rs, rs_same, back t ht]; exact kk
    · rintro _ rfl
      rw [mSet_rs, rs_same, back t ht]; exact kk
  have key := upI (P := fun c => (∀ j, 0 ≤ j → j < c → lcP p s j = false) → ∀ t : Int → Int, (∀ j, j ≠ 309 → t j = s j) → A7_leastCap_27 K (s 309) (whl s) (-2) c (rs h 41 0 t)) (n := 1000) (fun hj t ht => ?_) (fun c h5 h6 ih hj t ht => ?_) 0 (by omega) (by omega) (fun j a b => by omega) (h 41 0) (fun j _ => by rw [R.es])
  · rw [rs_self] at key; exact key
  · rw [show lc p s = -2 from ls_no hj] at k
    exact fin _ _ t ht (by decide) (by decide) (Or.inr (by decide)) k
  · refine s7_leastCap_27 ⟨by omega, fun z => by omega, fun _ => ⟨by decide, fun z => absurd rfl z, fun _ => ?_⟩⟩
    rintro _ rfl
    have et : up t 309 c = up s 309 c := by
      funext j
      unfold up
      by_cases d : j = 309
      · rw [if_pos d, if_pos d]
      · rw [if_neg d, if_neg d, ht j d]
    rw [mSet_rs, rs_same, rs_rs, et]
    have hb := alc_bd (p := p) (f := 99999) (c := c) hs (by omega)
    refine c7_allCapped (R.row (hs.cap hp (by omega))) (by decide) ?_
    rw [alc_309 p s c _ _ hp hs, up_same]
    refine ⟨by omega, fun z => ih (fun j a b => ?_) _ (fun j hj => up_ne hj), fun z => fin _ _ _ (fun j hj => up_ne hj) (by omega) (by omega) (Or.inl (by omega)) ?_⟩
    · by_cases d : j = c
      · rw [d]; exact decide_eq_false (by omega)
      · exact hj j a (by omega)
    · rw [show lc p s = c from ls_yes h5 h6 (decide_eq_true (by omega)) hj] at k
      exact k
end REF13
