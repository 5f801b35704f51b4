/-! the class: books changed -/
/-- only book b is touched -/
def FrB (b : Int) (h h2 : mH) : Prop := ∀ r j, ¬ (1 ≤ r ∧ r ≤ 6 ∧ j = b) → h2 r j = h r j
theorem FrB.rf (b : Int) (h : mH) : FrB b h h := fun _ _ _ => rfl
theorem FrB.tr {b : Int} {h h2 h3 : mH} (a : FrB b h h2) (c : FrB b h2 h3) : FrB b h h3 := fun r j z => (c r j z).trans (a r j z)
theorem frB_rs {b : Int} {h : mH} {r : Nat} {f : Int → Int} (hr : 1 ≤ r ∧ r ≤ 6) : FrB b h (rs h r b f) := by
  intro q j z
  unfold rs
  rw [if_neg (fun w => z ⟨by omega, by omega, w.2⟩)]
theorem mCpy_hit {h : mH} {r r2 : Nat} {i i2 n k : Int} (h0 : 0 ≤ k) (h1 : k < n) : mCpy h r i 0 r2 i2 0 n r2 i2 k = h r i k := by
  unfold mCpy
  rw [if_pos ⟨rfl, rfl, h0, by omega⟩, show 0 + (k - 0) = k by omega]
theorem mCpy_r {h : mH} {r r2 q : Nat} {i i2 j sp dp n : Int} (e : q ≠ r2) : mCpy h r i sp r2 i2 dp n q j = h q j := by
  funext k
  unfold mCpy
  rw [if_neg (fun z => e z.1)]
theorem mCpy_i {h : mH} {r r2 q : Nat} {i i2 j sp dp n : Int} (e : j ≠ i2) : mCpy h r i sp r2 i2 dp n q j = h q j := by
  funext k
  unfold mCpy
  rw [if_neg (fun z => e z.2.1)]
theorem mSet_r {h : mH} {r q : Nat} {i j k v : Int} (e : q ≠ r) : mSet h r i k v q j = h q j := by
  funext k
  unfold mSet
  rw [if_neg (fun z => e z.1)]
theorem mSet_i {h : mH} {r q : Nat} {i j k v : Int} (e : j ≠ i) : mSet h r i k v q j = h q j := by
  funext k
  unfold mSet
  rw [if_neg (fun z => e z.2.1)]
theorem mSet_hit {h : mH} {r : Nat} {i k v : Int} : mSet h r i k v r i k = v := by
  unfold mSet
  rw [if_pos ⟨rfl, rfl, rfl⟩]
theorem mSet_k {h : mH} {r : Nat} {i k k2 v : Int} (e : k2 ≠ k) : mSet h r i k v r i k2 = h r i k2 := by
  unfold mSet
  rw [if_neg (fun z => e z.2.2)]
section CLS2
variable {h h2 : mH} {b c : Int} {p : Pn} {s nm : Int → Int}
theorem k0_copyFrom {K : mH → Prop} (hne : c ≠ b) (k : ∀ h2, (∀ p s, Bk h c p s → Bk h2 b p s) → FrB b h h2 → K h2) : OkV M0_copyFrom [mR 1 b, mR 1 c] h K := by
  refine s0_copyFrom ?_
  rintro _ rfl _ rfl _ rfl _ rfl _ rfl _ rfl _ rfl _ rfl _ rfl _ rfl _ rfl _ rfl
  simp only [mSet_i hne]
  refine k _ (fun p s B => ?_) (fun r j z => ?_)
  · obtain ⟨⟨n0, n1, n2, n3, n4, n5⟩, b2, b3, b4, b5, b6⟩ := B
    have e0 : ∀ q : Nat, q ≠ 1 → ∀ (hh : mH) (k v : Int), mSet hh 1 b k v q = hh q := fun q hq hh k v => funext (fun j => mSet_r hq)
    have hm := b6.1.1
    refine ⟨?_, ?_, ?_, ?_, b5, b6⟩
    · unfold BN
      rw [mCpy_r (by decide), mCpy_r (by decide), mCpy_r (by decide), mCpy_r (by decide), mCpy_r (by decide)]
      refine ⟨?_, ?_, ?_, ?_, ?_, ?_⟩
      · rw [mSet_k (by decide), mSet_k (by decide), mSet_k (by decide), mSet_k (by decide), mSet_k (by decide), mSet_k (by decide), mSet_hit]; exact n0
      · rw [mSet_k (by decide), mSet_k (by decide), mSet_k (by decide), mSet_k (by decide), mSet_k (by decide), mSet_hit]; exact n1
      · rw [mSet_k (by decide), mSet_k (by decide), mSet_k (by decide), mSet_k (by decide), mSet_hit]; exact n2
      · rw [mSet_k (by decide), mSet_k (by decide), mSet_k (by decide), mSet_hit]; exact n3
      · rw [mSet_k (by decide), mSet_k (by decide), mSet_hit]; exact n4
      · rw [mSet_k (by decide), mSet_hit]; exact n5
    · unfold BJ
      rw [mCpy_r (by decide), mCpy_r (by decide), mCpy_r (by decide), mCpy_r (by decide), mCpy_r (by decide), mSet_hit]
      exact b2
    · intro r a d
      have hr := b3 r a d
      refine ⟨?_, ?_, ?_, ?_⟩
      · rw [mCpy_r (by decide), mCpy_r (by decide), mCpy_r (by decide), mCpy_r (by decide), mCpy_hit a (by omega)]
        simp only [e0 2 (by decide)]
        exact hr.1
      · rw [mCpy_r (by decide), mCpy_r (by decide), mCpy_r (by decide), mCpy_hit a (by omega), mCpy_r (by decide)]
        simp only [e0 3 (by decide)]
        exact hr.2.1
      · rw [mCpy_r (by decide), mCpy_r (by decide), mCpy_hit a (by omega), mCpy_r (by decide), mCpy_r (by decide)]
        simp only [e0 4 (by decide)]
        exact hr.2.2.1
      · rw [mCpy_r (by decide), mCpy_hit a (by omega), mCpy_r (by decide), mCpy_r (by decide), mCpy_r (by decide)]
        simp only [e0 5 (by decide)]
        exact hr.2.2.2
    · intro f a d l a2 d2
      have hf := b5.2 f a d
      have hn := b5.1.1
      rw [mCpy_hit (by omega) (by omega), mCpy_r (by decide), mCpy_r (by decide), mCpy_r (by decide), mCpy_r (by decide)]
      simp only [e0 6 (by decide)]
      exact b4 f a d l a2 d2
  · by_cases e : j = b
    · have e2 : ∀ t : Nat, t = 1 ∨ t = 2 ∨ t = 3 ∨ t = 4 ∨ t = 5 ∨ t = 6 → r ≠ t := fun t ht w => z ⟨by omega, by omega, e⟩
      rw [mCpy_r (e2 6 (by decide)), mCpy_r (e2 5 (by decide)), mCpy_r (e2 4 (by decide)), mCpy_r (e2 3 (by decide)), mCpy_r (e2 2 (by decide)), mSet_r (e2 1 (by decide)), mSet_r (e2 1 (by decide)), mSet_r (e2 1 (by decide)), mSet_r (e2 1 (by decide)), mSet_r (e2 1 (by decide)), mSet_r (e2 1 (by decide)), mSet_r (e2 1 (by decide))]
    · rw [mCpy_i e, mCpy_i e, mCpy_i e, mCpy_i e, mCpy_i e, mSet_i e, mSet_i e, mSet_i e, mSet_i e, mSet_i e, mSet_i e, mSet_i e]
/-- one number of a book -/
theorem Bk.fld (B : Bk h b p s) {k c v : Int} (hc : (k = 308 ∧ c = 1) ∨ (k = 309 ∧ c = 2) ∨ (k = 311 ∧ c = 3) ∨ (k = 312 ∧ c = 4) ∨ (k = 313 ∧ c = 5)) (hw : WfS p (up s k v)) : Bk (rs h 1 b (up (h 1 b) c v)) b p (up s k v) := by
  obtain ⟨⟨n0, n1, n2, n3, n4, n5⟩, b2, b3, b4, b5, b6⟩ := B
  have hm := b6.1.1
  have hn := b5.1.1
  refine ⟨?_, fun f a d l a2 d2 => ?_, fun r a d => ?_, fun f a d l a2 d2 => ?_, b5, hw⟩
  · unfold BN
    rw [rs_same]
    rcases hc with ⟨rfl, rfl⟩ | ⟨rfl, rfl⟩ | ⟨rfl, rfl⟩ | ⟨rfl, rfl⟩ | ⟨rfl, rfl⟩
    · rw [up_ne (by decide), up_ne (by decide), up_same, up_same, up_ne (by decide), up_ne (by decide), up_ne (by decide), up_ne (by decide), up_ne (by decide), up_ne (by decide), up_ne (by decide), up_ne (by decide)]
      exact ⟨n0, rfl, n2, n3, n4, n5⟩
    · rw [up_ne (by decide), up_ne (by decide), up_ne (by decide), up_ne (by decide), up_same, up_same, up_ne (by decide), up_ne (by decide), up_ne (by decide), up_ne (by decide), up_ne (by decide), up_ne (by decide)]
      exact ⟨n0, n1, rfl, n3, n4, n5⟩
    · rw [up_ne (by decide), up_ne (by decide), up_ne (by decide), up_ne (by decide), up_ne (by decide), up_ne (by decide), up_same, up_same, up_ne (by decide), up_ne (by decide), up_ne (by decide), up_ne (by decide)]
      exact ⟨n0, n1, n2, rfl, n4, n5⟩
    · rw [up_ne (by decide), up_ne (by decide), up_ne (by decide), up_ne (by decide), up_ne (by decide), up_ne (by decide), up_ne (by decide), up_ne (by decide), up_same, up_same, up_ne (by decide), up_ne (by decide)]
      exact ⟨n0, n1, n2, n3, rfl, n5⟩
    · rw [up_ne (by decide), up_ne (by decide), up_ne (by decide), up_ne (by decide), up_ne (by decide), up_ne (by decide), up_ne (by decide), up_ne (by decide), up_ne (by decide), up_ne (by decide), up_same, up_same]
      exact ⟨n0, n1, n2, n3, n4, rfl⟩
  · rw [rs_same, up_ne (by omega), up_ne (by omega)]
    exact b2 f a d l a2 d2
  · rw [up_ne (by omega)] at d
    rw [rs_r (by decide), rs_r (by decide), rs_r (by decide), rs_r (by decide)]
    unfold pkL
    rw [up_ne (by omega), up_ne (by omega), up_ne (by omega), up_ne (by omega), up_ne (by omega), up_ne (by omega), up_ne (by omega)]
    exact b3 r a d
  · have hf := b5.2 f a d
    rw [rs_r (by decide), up_ne (by omega)]
    exact b4 f a d l a2 d2
/-- claims of a risk -/
theorem Bk.claim (B : Bk h b p s) {r v : Int} (h0 : 0 ≤ r) (h1 : r < s 310) (hv : 0 ≤ v ∧ v ≤ 99999) : Bk (rs h 3 b (up (h 3 b) r v)) b p (up s (7 * r + 1) v) := by
  obtain ⟨b1, b2, b3, b4, b5, b6⟩ := B
  have hm := b6.1.1
  have hn := b5.1.1
  refine ⟨?_, fun f a d l a2 d2 => ?_, fun q a d => ?_, fun f a d l a2 d2 => ?_, b5, b6.claim b5 h0 h1 hv⟩
  · unfold BN
    rw [rs_r (by decide), up_ne (by omega), up_ne (by omega), up_ne (by omega), up_ne (by omega), up_ne (by omega), up_ne (by omega)]
    exact b1
  · rw [rs_r (by decide), up_ne (by omega)]
    exact b2 f a d l a2 d2
  · rw [up_ne (by omega)] at d
    have h3 := b3 q a d
    rw [rs_r (r' := 2) (by decide), rs_same, rs_r (r' := 4) (by decide), rs_r (r' := 5) (by decide)]
    have e : pkL (up s (7 * r + 1) v) q = pkL s q := by
      unfold pkL
      rw [up_ne (by omega), up_ne (by omega), up_ne (by omega), up_ne (by omega)]
    rw [e, up_ne (j := 7 * q + 0) (by omega), up_ne (j := 7 * q + 2) (by omega)]
    refine ⟨h3.1, ?_, h3.2.2⟩
    by_cases c : q = r
    · rw [c, up_same, up_same]
    · rw [up_ne c, up_ne (by omega)]; exact h3.2.1
  · have hf := b5.2 f a d
    rw [rs_r (by decide), up_ne (by omega)]
    exact b4 f a d l a2 d2
/-- another row of relativities -/
theorem Bk.rel (B : Bk h b p s) {t g : Int → Int} (hw : WfS p t) (e : ∀ j, 0 ≤ j → j < 280 ∨ 304 ≤ j → t j = s j) (hg : ∀ f, 0 ≤ f → f < nf p → ∀ l, 0 ≤ l → l < lv p f → g (8 * f + l) = t (280 + 6 * f + l)) : Bk (rs h 6 b g) b p t := by
  obtain ⟨b1, b2, b3, b4, b5, b6⟩ := B
  have hm := b6.1.1
  have hn := b5.1.1
  refine ⟨?_, fun f a d l a2 d2 => ?_, fun q a d => ?_, fun f a d l a2 d2 => ?_, b5, hw⟩
  · unfold BN
    rw [rs_r (by decide), e 310 (by omega) (by omega), e 308 (by omega) (by omega), e 309 (by omega) (by omega), e 311 (by omega) (by omega), e 312 (by omega) (by omega), e 313 (by omega) (by omega)]
    exact b1
  · rw [rs_r (by decide), e (304 + f) (by omega) (by omega)]
    exact b2 f a d l a2 d2
  · rw [e 310 (by omega) (by omega)] at d
    rw [rs_r (by decide), rs_r (by decide), rs_r (by decide), rs_r (by decide)]
    unfold pkL
    rw [e (7 * q + 0) (by omega) (by omega), e (7 * q + 1) (by omega) (by omega), e (7 * q + 2) (by omega) (by omega), e (7 * q + 3 + 0) (by omega) (by omega), e (7 * q + 3 + 1) (by omega) (by omega), e (7 * q + 3 + 2) (by omega) (by omega), e (7 * q + 3 + 3) (by omega) (by omega)]
    exact b3 q a d
  · rw [rs_same]
    exact hg f a d l a2 d2
theorem Bk.setClass (B : Bk h b p s) {K : mH → Prop} {f l v : Int} (h0 : 0 ≤ f) (h1 : f < nf p) (h2 : 0 ≤ l) (h3 : l < lv p f) (hv : lo p f ≤ v ∧ v ≤ hi p f) (k : ∀ g, Bk (rs h 6 b g) b p (reS s f l v) → K (rs h 6 b g)) : OkV M0_setClass [mR 1 b, mI f, mI l, mI v] h K := by
  have hp := B.wp
  have hs := B.wf
  have hn := hp.1.1
  have hb := (hp.2 f h0 h1).1
  have hl := la_bd hp hs.j h0 h1 h2 h3
  have hf := fs_le (s := s) (f := f) h2
  refine k0_setClass B.j hp hs.j h0 h1 h2 h3 (k _ (B.rel (reS_wf hp hs h0 h1 h2 h3 hv) (fun j _ hj => by unfold reS; rw [if_neg (by omega)]) (fun g a c m d e => ?_)))
  have hg := hp.2 g a c
  unfold stR reS
  by_cases x : g = f
  · subst x
    by_cases y : fs s g l ≤ m ∧ m ≤ la s g l
    · rw [if_pos (by omega), if_pos (by omega)]
    · rw [if_neg (by omega), if_neg (by omega)]
      exact B.l a c d e
  · rw [if_neg (by omega), if_neg (by omega)]
    exact B.l a c d e
end CLS2
