/-! the reference takes a text -/
def bgS (p : Pn) (s : Int → Int) : Int → Int := fun j => if j < 0 then 0 else if j < 280 then (if j < 7 * s 310 then s j else 0) else if j < 304 then (if (j - 280) / 6 < nf p ∧ (j - 280) % 6 < lv p ((j - 280) / 6) then 10000 else 0) else if j < 308 then (if j - 304 < nf p then s j else 0) else if j < 314 then s j else 0
section RTEXT2
variable {h h2 h3 : mH} {t : Int → Int} {n i : Int} {r : Rd} {p : Pn} {s : Int → Int}
theorem bgS_lo {j : Int} (h0 : 0 ≤ j) (h1 : j < 280) : bgS p s j = if j < 7 * s 310 then s j else 0 := by unfold bgS; rw [if_neg (by omega), if_pos h1]
theorem bgS_rel {j : Int} (h0 : 280 ≤ j) (h1 : j < 304) : bgS p s j = if (j - 280) / 6 < nf p ∧ (j - 280) % 6 < lv p ((j - 280) / 6) then 10000 else 0 := by unfold bgS; rw [if_neg (by omega), if_neg (by omega), if_pos h1]
theorem bgS_jo {j : Int} (h0 : 304 ≤ j) (h1 : j < 308) : bgS p s j = if j - 304 < nf p then s j else 0 := by unfold bgS; rw [if_neg (by omega), if_neg (by omega), if_neg (by omega), if_pos h1]
theorem bgS_hi {j : Int} (h0 : 308 ≤ j) (h1 : j < 314) : bgS p s j = s j := by unfold bgS; rw [if_neg (by omega), if_neg (by omega), if_neg (by omega), if_neg (by omega), if_pos h1]
/-- where a row says something -/
theorem bgS_on (hp : WfP p) (hs : WfS p s) (h10 : ∀ j, 280 ≤ j → j < 304 → s j = 10000) : (∀ j, 308 ≤ j → j < 314 → bgS p s j = s j) ∧ (∀ q, 0 ≤ q → q < s 310 → ∀ k, 0 ≤ k → k < 7 → bgS p s (7 * q + k) = s (7 * q + k)) ∧ (∀ f, 0 ≤ f → f < nf p → bgS p s (304 + f) = s (304 + f)) ∧ ∀ f, 0 ≤ f → f < nf p → ∀ l, 0 ≤ l → l < lv p f → bgS p s (280 + 6 * f + l) = s (280 + 6 * f + l) := by
  have hn := hp.1.1
  have hm := hs.1.1
  refine ⟨fun j a b => bgS_hi a b, fun q a b k c d => ?_, fun f a b => ?_, fun f a b l c d => ?_⟩
  · rw [bgS_lo (by omega) (by omega), if_pos (by omega)]
  · rw [bgS_jo (by omega) (by omega), if_pos (by omega)]
  · have hl := hp.2 f a b
    rw [bgS_rel (by omega) (by omega), show (280 + 6 * f + l - 280) / 6 = f by omega, show (280 + 6 * f + l - 280) % 6 = l by omega, if_pos ⟨b, d⟩, h10 _ (by omega) (by omega)]
theorem bgS_wf (hp : WfP p) (hs : WfS p s) (h10 : ∀ j, 280 ≤ j → j < 304 → s j = 10000) : WfS p (bgS p s) := by
  obtain ⟨o1, o2, o3, o4⟩ := bgS_on hp hs h10
  obtain ⟨a, b, c, d⟩ := hs
  have e310 := o1 310 (by decide) (by decide)
  refine ⟨?_, fun q x y => ?_, fun f x y l z w => ?_, fun f x y l z w u => ?_⟩
  · unfold WfN
    rw [e310, o1 308 (by decide) (by decide), o1 309 (by decide) (by decide), o1 311 (by decide) (by decide), o1 312 (by decide) (by decide), o1 313 (by decide) (by decide)]
    exact a
  · rw [e310] at y
    have := b q x y
    unfold WfR at this ⊢
    rw [o2 q x y 0 (by decide) (by decide), o2 q x y 1 (by decide) (by decide), o2 q x y 2 (by decide) (by decide)]
    refine ⟨this.1, this.2.1, this.2.2.1, fun f u v => ?_⟩
    rw [show 7 * q + 3 + f = 7 * q + (3 + f) by omega, o2 q x y (3 + f) (by omega) (by omega), show 7 * q + (3 + f) = 7 * q + 3 + f by omega]
    exact this.2.2.2 f u v
  · rw [o4 f x y l z w]; exact c f x y l z w
  · rw [o3 f x y] at u
    have := d f x y l z w u
    rw [o4 f x y l z (by omega), o4 f x y (l + 1) (by omega) this.1]
    exact this
theorem c7_takeText {K : mH → Prop} (k : ∀ h2, (∀ q j, ¬ ((q = 32 ∨ q = 34 ∨ q = 35 ∨ q = 36 ∨ q = 37 ∨ q = 39) ∧ j = 0) → h2 q j = h q j) → (∀ j, 0 ≤ j → j < 9 → h2 32 0 j = h 32 0 (9 + j)) → (∀ q, q = 34 ∨ q = 35 ∨ q = 36 ∨ q = 37 ∨ q = 39 → ∀ f, 0 ≤ f → f < 4 → h2 q 0 f = h q 0 (4 + f)) → K h2) : OkV M7_takeText [mR 30 0] h K := by
  have key := upI (P := fun x => ∀ h2, (∀ q j, ¬ (q = 32 ∧ j = 0) → h2 q j = h q j) → (∀ j, 0 ≤ j → j < x → h2 32 0 j = h 32 0 (9 + j)) → (∀ j, 9 ≤ j → h2 32 0 j = h 32 0 j) → A7_takeText_2 K x h2) (n := 9) (fun h2 e1 e2 e3 => ?_) (fun x h5 h6 ih h2 e1 e2 e3 => ?_) 0 (by decide) (by decide) h (fun _ _ _ => rfl) (fun j a b => by omega) (fun _ _ => rfl)
  · exact s7_takeText key
  · refine s7_takeText_2 ⟨by decide, fun _ => ?_, fun z => absurd (Int.le_refl _) z⟩
    have key := upI (P := fun x => ∀ h3, (∀ q j, ¬ ((q = 34 ∨ q = 35 ∨ q = 36 ∨ q = 37 ∨ q = 39) ∧ j = 0) → h3 q j = h2 q j) → (∀ q, q = 34 ∨ q = 35 ∨ q = 36 ∨ q = 37 ∨ q = 39 → (∀ f, 0 ≤ f → f < x → h3 q 0 f = h2 q 0 (4 + f)) ∧ ∀ f, 4 ≤ f → h3 q 0 f = h2 q 0 f) → A7_takeText_27 K x h3) (n := 4) (fun h3 f1 f2 => ?_) (fun x h5 h6 ih h3 f1 f2 => ?_) 0 (by decide) (by decide) h2 (fun _ _ _ => rfl) (fun q _ => ⟨fun f a b => by omega, fun _ _ => rfl⟩)
    · exact key
    · refine s7_takeText_27 ⟨by decide, fun _ => k h3 (fun q j z => ?_) (fun j a b => ?_) (fun q hq f a b => ?_), fun z => absurd (Int.le_refl _) z⟩
      · rw [f1 q j (fun w => z ⟨by omega, w.2⟩), e1 q j (fun w => z ⟨by omega, w.2⟩)]
      · rw [f1 32 0 (by decide)]; exact e2 j a b
      · rw [(f2 q hq).1 f a b, e1 q 0 (by omega)]
    · refine s7_takeText_27 ⟨by omega, fun z => by omega, fun _ => ⟨by omega, by omega, ?_⟩⟩
      rintro _ rfl
      refine ⟨by omega, by omega, ?_⟩
      rintro _ rfl
      refine ⟨by omega, by omega, ?_⟩
      rintro _ rfl
      refine ⟨by omega, by omega, ?_⟩
      rintro _ rfl
      refine ⟨by omega, by omega, ?_⟩
      rintro _ rfl
      refine ih _ (fun q j z => ?_) (fun q hq => ?_)
      · have c : ∀ (H : mH) (m : Nat) (a v : Int), (m = 34 ∨ m = 35 ∨ m = 36 ∨ m = 37 ∨ m = 39) → mSet H m 0 a v q j = H q j := by
          intro H m a v hm
          funext b
          unfold mSet
          rw [if_neg (fun w => z ⟨by omega, w.2.1⟩)]
        rw [c _ 39 _ _ (by omega), c _ 37 _ _ (by omega), c _ 36 _ _ (by omega), c _ 35 _ _ (by omega), c _ 34 _ _ (by omega)]
        exact f1 q j z
      · have done : ∀ (m : Nat) (H : mH), (m = 34 ∨ m = 35 ∨ m = 36 ∨ m = 37 ∨ m = 39) → H m 0 = h3 m 0 → (∀ f, 0 ≤ f → f < x + 1 → mSet H m 0 x (H m 0 (4 + x)) m 0 f = h2 m 0 (4 + f)) ∧ ∀ f, 4 ≤ f → mSet H m 0 x (H m 0 (4 + x)) m 0 f = h2 m 0 f := by
          intro m H hm e
          refine ⟨fun f a b => ?_, fun f a => ?_⟩
          · by_cases u : f = x
            · rw [u, mSet_e, e]; exact (f2 m hm).2 (4 + x) (by omega)
            · rw [mSet_kk u, e]; exact (f2 m hm).1 f a (by omega)
          · rw [mSet_kk (by omega), e]; exact (f2 m hm).2 f a
        rcases hq with rfl | rfl | rfl | rfl | rfl
        · rw [mSet_o (show (34 : Nat) ≠ 39 by decide), mSet_o (show (34 : Nat) ≠ 37 by decide), mSet_o (show (34 : Nat) ≠ 36 by decide), mSet_o (show (34 : Nat) ≠ 35 by decide)]
          exact done 34 h3 (by omega) rfl
        · rw [mSet_o (show (35 : Nat) ≠ 39 by decide), mSet_o (show (35 : Nat) ≠ 37 by decide), mSet_o (show (35 : Nat) ≠ 36 by decide)]
          exact done 35 _ (by omega) (by rw [mSet_o (by decide)])
        · rw [mSet_o (show (36 : Nat) ≠ 39 by decide), mSet_o (show (36 : Nat) ≠ 37 by decide)]
          exact done 36 _ (by omega) (by rw [mSet_o (by decide), mSet_o (by decide)])
        · rw [mSet_o (show (37 : Nat) ≠ 39 by decide)]
          exact done 37 _ (by omega) (by rw [mSet_o (by decide), mSet_o (by decide), mSet_o (by decide)])
        · exact done 39 _ (by omega) (by rw [mSet_o (by decide), mSet_o (by decide), mSet_o (by decide), mSet_o (by decide)])
  · refine s7_takeText_2 ⟨by omega, fun z => by omega, fun _ => c7_reading (by omega) ⟨by omega, ?_⟩⟩
    rintro _ rfl
    refine ih _ (fun q j z => ?_) (fun j a b => ?_) (fun j a => ?_)
    · have c : mSet h2 32 0 x (h2 32 0 (9 + x)) q j = h2 q j := by
        funext b
        unfold mSet
        rw [if_neg (fun w => z ⟨w.1, w.2.1⟩)]
      rw [c]; exact e1 q j z
    · by_cases u : j = x
      · rw [u, mSet_e]; exact e3 (9 + x) (by omega)
      · rw [mSet_kk u]; exact e2 j a (by omega)
    · rw [mSet_kk (by omega)]; exact e3 j a
/-- so far: f factors, of the next one l levels -/
def bgP (p : Pn) (s : Int → Int) (f l d : Int) : Int → Int := fun j => if j < 280 then (if j < 7 * s 310 then s j else 0) else if j < 304 then (if ((j - 280) / 6 < f ∧ (j - 280) % 6 < lv p ((j - 280) / 6)) ∨ ((j - 280) / 6 = f ∧ (j - 280) % 6 < l) then 10000 else 0) else if j - 304 < f + d then s j else 0
theorem c7_begins {K : mH → Prop} (hp : WfP p) (hs : WfS p s) (e0 : h 32 0 0 = s 308) (e2 : h 32 0 2 = s 309) (e4 : h 32 0 4 = s 311) (e5 : h 32 0 5 = s 312) (e6 : h 32 0 6 = s 313) (e7 : h 32 0 7 = nf p) (e8 : h 32 0 8 = s 310) (e35 : ∀ f, 0 ≤ f → f < nf p → h 35 0 f = lv p f ∧ h 39 0 f = s (304 + f)) (e40 : ∀ j, 0 ≤ j → j < 7 * s 310 → h 40 0 j = s j) (k : K (rs h 41 0 (bgS p s))) : OkV M7_begins [mR 30 0] h K := by
  have hn := hp.1.1
  have hm := hs.1.1
  have st : ∀ (f : Int → Int) (a v : Int), mSet (rs h 41 0 f) 41 0 a v = rs h 41 0 (up f a v) := fun f a v => by rw [mSet_rs, rs_same, rs_rs]
  have rr : ∀ (f : Int → Int) (q : Nat), q ≠ 41 → ∀ j, rs h 41 0 f q j = h q j := fun f q z j => rs_r z
  have key := upI (P := fun x => ∀ g : Int → Int, (∀ j, 0 ≤ j → j < x → g j = if j < 7 * s 310 then s j else 0) → A7_begins_2 K x (rs h 41 0 g)) (n := 314) (fun g eg => ?_) (fun x h5 h6 ih g eg => ?_) 0 (by decide) (by decide) (h 41 0) (fun j a b => by omega)
  · rw [rs_self] at key
    exact s7_begins key
  · refine s7_begins_2 ⟨by decide, fun _ => ?_, fun z => absurd (Int.le_refl _) z⟩
    have key := upI (P := fun f => ∀ g : Int → Int, (∀ j, 0 ≤ j → j < 308 → g j = bgP p s f 0 0 j) → A7_begins_47 K f (rs h 41 0 g)) (n := nf p) (fun g eg => ?_) (fun f h5 h6 ih g eg => ?_) 0 (by omega) (by omega) g (fun j a b => ?_)
    · exact key
    · refine At.norm (g := fun j => if 308 ≤ j ∧ j < 314 then g j else bgS p s j) ro_41 (fun j a b => ?_) ?_
      · by_cases c : 308 ≤ j
        · rw [if_pos (by omega)]
        · rw [if_neg (by omega), eg j a (by omega)]
          unfold bgP bgS
          rw [if_neg (show ¬ j < 0 by omega)]
          by_cases d : j < 280
          · rw [if_pos d, if_pos d]
          · rw [if_neg d, if_neg d]
            by_cases w : j < 304
            · rw [if_pos w, if_pos w]
              by_cases y : (j - 280) / 6 < nf p ∧ (j - 280) % 6 < lv p ((j - 280) / 6)
              · rw [if_pos y, if_pos (Or.inl y)]
              · rw [if_neg y, if_neg]
                rintro (v | v)
                · exact y v
                · omega
            · rw [if_neg w, if_neg w, if_pos (show j < 308 by omega)]
              by_cases y : j - 304 < nf p
              · rw [if_pos y, if_pos (show j - 304 < nf p + 0 by omega)]
              · rw [if_neg y, if_neg (show ¬ j - 304 < nf p + 0 by omega)]
      · refine s7_begins_47 (s7_factors ?_)
        rw [rr _ 32 (by decide), e7]
        refine ⟨by omega, fun _ => ?_, fun z => absurd (Int.le_refl _) z⟩
        rw [e0]
        rintro _ rfl
        rw [st, rr _ 32 (by decide), e2]
        rintro _ rfl
        rw [st, rr _ 32 (by decide), e4]
        rintro _ rfl
        rw [st, rr _ 32 (by decide), e5]
        rintro _ rfl
        rw [st, rr _ 32 (by decide), e6]
        rintro _ rfl
        rw [st, rr _ 32 (by decide), e8]
        rintro _ rfl
        rw [st]
        have ee : up (up (up (up (up (up (fun j => if 308 ≤ j ∧ j < 314 then g j else bgS p s j) 308 (s 308)) 309 (s 309)) 311 (s 311)) 312 (s 312)) 313 (s 313)) 310 (s 310) = bgS p s := by
          funext j
          unfold up
          by_cases c : 308 ≤ j ∧ j < 314
          · rw [bgS_hi c.1 c.2]
            have : j = 308 ∨ j = 309 ∨ j = 310 ∨ j = 311 ∨ j = 312 ∨ j = 313 := by omega
            rcases this with rfl | rfl | rfl | rfl | rfl | rfl <;> simp
          · rw [if_neg (by omega), if_neg (by omega), if_neg (by omega), if_neg (by omega), if_neg (by omega), if_neg (by omega)]
            exact if_neg c
        rw [ee]
        exact k
    · refine s7_begins_47 (s7_factors ?_)
      rw [rr _ 32 (by decide), e7]
      refine ⟨by omega, fun z => by omega, fun _ => ⟨by omega, by omega, ?_⟩⟩
      rw [rr _ 39 (by decide), (e35 f h5 h6).2]
      rintro _ rfl
      rw [st]
      have hl := hp.2 f h5 h6
      have key := upI (P := fun l => ∀ g : Int → Int, (∀ j, 0 ≤ j → j < 308 → g j = bgP p s f l 1 j) → A7_begins_73 K f l (rs h 41 0 g)) (n := lv p f) (fun g2 eg2 => ?_) (fun l h7 h8 ih2 g2 eg2 => ?_) 0 (by omega) (by omega) (up g (304 + f) (s (304 + f))) (fun j a b => ?_)
      · exact key
      · refine s7_begins_73 ⟨by omega, ?_⟩
        rw [rr _ 35 (by decide), (e35 f h5 h6).1]
        refine ⟨by omega, fun _ => ih g2 (fun j a b => ?_), fun z => absurd (Int.le_refl _) z⟩
        rw [eg2 j a b]
        unfold bgP
        by_cases c : j < 280
        · rw [if_pos c, if_pos c]
        · rw [if_neg c, if_neg c]
          by_cases d : j < 304
          · rw [if_pos d, if_pos d]
            by_cases w : ((j - 280) / 6 < f ∧ (j - 280) % 6 < lv p ((j - 280) / 6)) ∨ ((j - 280) / 6 = f ∧ (j - 280) % 6 < lv p f)
            · rw [if_pos w, if_pos]
              rcases w with w | w
              · exact Or.inl ⟨by omega, w.2⟩
              · exact Or.inl ⟨by omega, by rw [w.1]; exact w.2⟩
            · rw [if_neg w, if_neg]
              rintro (y | y)
              · by_cases v : (j - 280) / 6 = f
                · exact w (Or.inr ⟨v, by have := y.2; rw [v] at this; exact this⟩)
                · exact w (Or.inl ⟨by omega, y.2⟩)
              · omega
          · rw [if_neg d, if_neg d]
            by_cases w : j - 304 < f + 1
            · rw [if_pos w, if_pos (by omega)]
            · rw [if_neg w, if_neg (by omega)]
      · refine s7_begins_73 ⟨by omega, ?_⟩
        rw [rr _ 35 (by decide), (e35 f h5 h6).1]
        refine ⟨by omega, fun z => by omega, fun _ => ⟨by omega, ?_⟩⟩
        rintro _ rfl
        rw [st]
        refine ih2 _ (fun j a b => ?_)
        unfold up
        by_cases v : j = 280 + 6 * f + l
        · rw [if_pos v]
          unfold bgP
          rw [if_neg (by omega), if_pos (by omega), if_pos (Or.inr (by omega))]
        · rw [if_neg v, eg2 j a b]
          unfold bgP
          by_cases c : j < 280
          · rw [if_pos c, if_pos c]
          · rw [if_neg c, if_neg c]
            by_cases d : j < 304
            · rw [if_pos d, if_pos d]
              by_cases w : ((j - 280) / 6 < f ∧ (j - 280) % 6 < lv p ((j - 280) / 6)) ∨ ((j - 280) / 6 = f ∧ (j - 280) % 6 < l)
              · rw [if_pos w, if_pos]
                rcases w with w | w
                · exact Or.inl w
                · exact Or.inr (by omega)
              · rw [if_neg w, if_neg]
                rintro (y | y)
                · exact w (Or.inl y)
                · exact w (Or.inr (by omega))
            · rw [if_neg d, if_neg d]
      · unfold up
        by_cases v : j = 304 + f
        · rw [if_pos v]
          unfold bgP
          rw [if_neg (by omega), if_neg (by omega), if_pos (by omega), v]
        · rw [if_neg v, eg j a b]
          unfold bgP
          by_cases c : j < 280
          · rw [if_pos c, if_pos c]
          · rw [if_neg c, if_neg c]
            by_cases d : j < 304
            · rw [if_pos d, if_pos d]
            · rw [if_neg d, if_neg d]
              by_cases w : j - 304 < f + 0
              · rw [if_pos w, if_pos (by omega)]
              · rw [if_neg w, if_neg (by omega)]
    · rw [eg j a (by omega)]
      unfold bgP
      by_cases c : j < 280
      · rw [if_pos c]
      · rw [if_neg (by omega), if_neg c]
        by_cases d : j < 304
        · rw [if_pos d, if_neg]
          rintro (y | y)
          · omega
          · omega
        · rw [if_neg d, if_neg (by omega)]
  · refine s7_begins_2 ⟨by omega, fun z => by omega, fun _ => ?_⟩
    rw [rr _ 32 (by decide), e8]
    refine ⟨by omega, fun z => ⟨by omega, ?_⟩, fun z => ⟨by omega, by omega, ?_⟩⟩
    · rintro _ rfl
      rw [st]
      refine ih _ (fun j a b => ?_)
      unfold up
      by_cases u : j = x
      · rw [if_pos u, if_neg (by omega)]
      · rw [if_neg u]; exact eg j a (by omega)
    · rw [rr _ 40 (by decide), e40 x h5 (by omega)]
      rintro _ rfl
      rw [st]
      refine ih _ (fun j a b => ?_)
      unfold up
      by_cases u : j = x
      · rw [if_pos u, if_pos (by omega), u]
      · rw [if_neg u]; exact eg j a (by omega)
end RTEXT2
