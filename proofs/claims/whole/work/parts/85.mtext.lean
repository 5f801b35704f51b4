/-! the class's text -/
section MTEXT
variable {h h2 h3 : mH} {t : Int → Int} {n i j : Int} {r : Rd} {p : Pn} {nm s : Int → Int} {σ : Sg}
theorem k3_clear {K : mH → Prop} (k : K (mSet (mSet (mSet h 7 1 0 0) 7 1 1 10) 7 1 2 0)) : OkV M3_clear [mR 7 1] h K := by
  refine s3_clear ?_
  rintro _ rfl _ rfl _ rfl
  exact k
theorem k0_clear {K : mH → Prop} (k : ∀ h2, (∀ q b, ¬ (1 ≤ q ∧ q ≤ 6 ∧ b = 2) → h2 q b = h q b) → BN h2 2 s00 → h2 1 2 6 = 0 → (∀ x, 0 ≤ x → x < 32 → h2 6 2 x = 10000) → K h2) : OkV M0_clear [mR 1 2] h K := by
  refine s0_clear ?_
  rintro _ rfl _ rfl _ rfl _ rfl _ rfl _ rfl
  generalize hH : mSet (mSet (mSet (mSet (mSet (mSet h 1 2 0 0) 1 2 1 1000) 1 2 2 250) 1 2 3 0) 1 2 4 99) 1 2 5 0 = H
  have c : ∀ (q : Nat) (b : Int), ¬ (1 ≤ q ∧ q ≤ 6 ∧ b = 2) → ∀ (G : mH) (m : Nat) (a v : Int), 1 ≤ m ∧ m ≤ 6 → mSet G m 2 a v q b = G q b := by
    intro q b z G m a v hm
    funext x
    unfold mSet
    rw [if_neg]
    rintro ⟨rfl, rfl, -⟩
    exact z ⟨hm.1, hm.2, rfl⟩
  have fH : ∀ (q : Nat) (b : Int), ¬ (1 ≤ q ∧ q ≤ 6 ∧ b = 2) → H q b = h q b := fun q b z => by
    rw [← hH, c q b z _ 1 _ _ (by decide), c q b z _ 1 _ _ (by decide), c q b z _ 1 _ _ (by decide), c q b z _ 1 _ _ (by decide), c q b z _ 1 _ _ (by decide), c q b z _ 1 _ _ (by decide)]
  have bH : BN H 2 s00 := by
    unfold BN
    rw [← hH]
    refine ⟨?_, ?_, ?_, ?_, ?_, mSet_e⟩
    · rw [mSet_kk (by decide), mSet_kk (by decide), mSet_kk (by decide), mSet_kk (by decide), mSet_kk (by decide), mSet_e]; rfl
    · rw [mSet_kk (by decide), mSet_kk (by decide), mSet_kk (by decide), mSet_kk (by decide), mSet_e]; rfl
    · rw [mSet_kk (by decide), mSet_kk (by decide), mSet_kk (by decide), mSet_e]; rfl
    · rw [mSet_kk (by decide), mSet_kk (by decide), mSet_e]; rfl
    · rw [mSet_kk (by decide), mSet_e]; rfl
  have key := upI (P := fun x => ∀ h1, (∀ q b, ¬ (q = 6 ∧ b = 2) → h1 q b = H q b) → (∀ y, 0 ≤ y → y < x → h1 6 2 y = 10000) → A0_clear_37 K 2 x h1) (n := 32) (fun h1 e1 e2 => ?_) (fun x h5 h6 ih h1 e1 e2 => ?_) 0 (by decide) (by decide) H (fun _ _ _ => rfl) (fun y a b => by omega)
  · exact key
  · refine s0_clear_37 ⟨by decide, fun _ => ?_, fun z => absurd (Int.le_refl _) z⟩
    rintro _ rfl
    refine k _ (fun q b z => ?_) ?_ mSet_e (fun x a b => ?_)
    · rw [c q b z _ 1 _ _ (by decide), e1 q b (by omega), fH q b z]
    · unfold BN
      rw [mSet_kk (by decide), mSet_kk (by decide), mSet_kk (by decide), mSet_kk (by decide), mSet_kk (by decide), mSet_kk (by decide), e1 1 2 (by decide)]
      exact bH
    · rw [mSet_o (by decide)]; exact e2 x a b
  · refine s0_clear_37 ⟨by omega, fun z => by omega, fun _ => ⟨by omega, ?_⟩⟩
    rintro _ rfl
    refine ih _ (fun q b z => ?_) (fun y a b => ?_)
    · have : mSet h1 6 2 x 10000 q b = h1 q b := by
        funext m
        unfold mSet
        rw [if_neg (fun w => z ⟨w.1, w.2.1⟩)]
      rw [this]; exact e1 q b z
    · by_cases u : y = x
      · rw [u, mSet_e]
      · rw [mSet_kk u]; exact e2 y a (by omega)
theorem k3_copyFrom {K : mH → Prop} (k : ∀ h2, (∀ p nm, Pl h 1 p nm → Pl h2 0 p nm) → (∀ q b, ¬ (7 ≤ q ∧ q ≤ 11 ∧ b = 0) → h2 q b = h q b) → K h2) : OkV M3_copyFrom [mR 7 0, mR 7 1] h K := by
  refine s3_copyFrom ?_
  rintro _ rfl _ rfl _ rfl _ rfl _ rfl _ rfl _ rfl
  have i1 : ∀ (G : mH) (m q : Nat) (a v : Int), mSet G m 0 a v q 1 = G q 1 := fun G m q a v => by
    funext x
    unfold mSet
    rw [if_neg (fun w => absurd w.2.1 (by decide))]
  refine k _ (fun p nm P => ?_) (fun q b z => ?_)
  · obtain ⟨⟨p0, p1, p2⟩, pf, pw⟩ := P
    have hn := pw.1.1
    refine ⟨⟨?_, ?_, ?_⟩, fun f a b => ?_, pw⟩
    · rw [mCpy_r (by decide), mCpy_r (by decide), mCpy_r (by decide), mCpy_r (by decide), mSet_kk (by decide), mSet_kk (by decide), mSet_e]; exact p0
    · rw [mCpy_r (by decide), mCpy_r (by decide), mCpy_r (by decide), mCpy_r (by decide), mSet_kk (by decide), mSet_e, i1]; exact p1
    · rw [mCpy_r (by decide), mCpy_r (by decide), mCpy_r (by decide), mCpy_r (by decide), mSet_e, i1, i1]; exact p2
    · have q := pf f a b
      refine ⟨?_, ?_, ?_, ?_, q.2.2.2.2⟩
      · rw [mCpy_r (by decide), mCpy_r (by decide), mCpy_r (by decide), mCpy_hit a (by omega), i1, i1, i1]; exact q.1
      · rw [mCpy_r (by decide), mCpy_r (by decide), mCpy_hit a (by omega), mCpy_i (by decide), i1, i1, i1]; exact q.2.1
      · rw [mCpy_r (by decide), mCpy_hit a (by omega), mCpy_i (by decide), mCpy_i (by decide), i1, i1, i1]; exact q.2.2.1
      · rw [mCpy_hit a (by omega), mCpy_i (by decide), mCpy_i (by decide), mCpy_i (by decide), i1, i1, i1]; exact q.2.2.2.1
  · have cc : ∀ (G : mH) (m : Nat), 7 ≤ m ∧ m ≤ 11 → mCpy G m 1 0 m 0 0 4 q b = G q b := by
      intro G m hm
      by_cases u : q = m
      · exact mCpy_i (by omega)
      · exact mCpy_r u
    have cs : ∀ (G : mH) (a v : Int), mSet G 7 0 a v q b = G q b := by
      intro G a v
      funext x
      unfold mSet
      rw [if_neg]
      rintro ⟨rfl, rfl, -⟩
      exact z ⟨by decide, by decide, rfl⟩
    rw [cc _ 11 (by decide), cc _ 10 (by decide), cc _ 9 (by decide), cc _ 8 (by decide), cs, cs, cs]
/-- the first token -/
theorem k4_first {K : mH → Prop} {m : Int} (e3 : h 24 0 3 = 0) (e20 : h 20 0 3 = m + 1) (hm : 0 ≤ m ∧ m ≤ 900) (hT : ∀ q, 0 ≤ q → q ≤ m → TkQ (h 21 0 q) (h 22 0 q) (h 23 0 q) t n (tP t n (ps t n q))) (hE : tS t n (ps t n m) = 4) (hn : 0 ≤ n ∧ n ≤ 900) (e10 : h 24 0 10 = -1) (k : ∀ h2, CUR h2 t n 0 0 → Fr24 h h2 → h2 24 0 9 = h 24 0 9 → K h2) : OkV M4_advance [mR 24 0] h K := by
  refine s4_advance ?_
  rw [e3, e20]
  refine ⟨by decide, fun z => absurd z (by decide), fun _ => ⟨⟨by decide, by omega⟩, fun z => by omega, fun z => ⟨by decide, ?_⟩⟩⟩
  rintro _ rfl
  rw [mSet_kk (show (3 : Int) ≠ 4 by decide), e3]
  refine ⟨by decide, ?_⟩
  rintro _ rfl
  rw [mSet_kk (show (3 : Int) ≠ 5 by decide), mSet_kk (show (3 : Int) ≠ 4 by decide), e3]
  refine ⟨by decide, ?_⟩
  rintro _ rfl
  rw [mSet_kk (show (3 : Int) ≠ 6 by decide), mSet_kk (show (3 : Int) ≠ 5 by decide), mSet_kk (show (3 : Int) ≠ 4 by decide), e3]
  rintro _ rfl
  rw [mSet_o (show (22 : Nat) ≠ 24 by decide), mSet_o (show (23 : Nat) ≠ 24 by decide), mSet_o (show (23 : Nat) ≠ 24 by decide)]
  have o : ∀ w : Nat, w ≠ 24 → mSet (mSet (mSet (mSet h 24 0 4 (h 21 0 0)) 24 0 5 (h 22 0 0)) 24 0 6 (h 23 0 0)) 24 0 3 (0 + 1) w = h w := fun w z => by rw [mSet_o z, mSet_o z, mSet_o z, mSet_o z]
  refine k _ ⟨m, by omega, mSet_e, ?_, fun q a b => ?_, hE, ?_, rfl, ⟨Int.le_refl _, hn.1⟩, hn, ?_⟩ ⟨fun r b z => ?_, ?_, ?_⟩ ?_
  · rw [o 20 (by decide)]; exact e20
  · rw [o 21 (by decide), o 22 (by decide), o 23 (by decide)]; exact hT q a b
  · rw [mSet_kk (by decide), mSet_kk (by decide), mSet_kk (by decide), mSet_e, mSet_kk (by decide), mSet_kk (by decide), mSet_e, mSet_kk (by decide), mSet_e]
    exact hT 0 (by decide) hm.1
  · rw [mSet_kk (by decide), mSet_kk (by decide), mSet_kk (by decide), mSet_kk (by decide)]; exact e10
  · have c : ∀ (H : mH) (a v : Int), mSet H 24 0 a v r b = H r b := by
      intro H a v
      funext x
      unfold mSet
      rw [if_neg (fun w => z ⟨w.1, w.2.1⟩)]
    rw [c, c, c, c]
  · rw [mSet_kk (by decide), mSet_kk (by decide), mSet_kk (by decide), mSet_kk (by decide)]
  · rw [mSet_kk (by decide), mSet_kk (by decide), mSet_kk (by decide), mSet_kk (by decide)]
  · rw [mSet_kk (by decide), mSet_kk (by decide), mSet_kk (by decide), mSet_kk (by decide)]
/-- reading touches its own cells alone -/
def FrX (h h2 : mH) : Prop := ∀ q b, ¬ (20 ≤ q ∧ q ≤ 24 ∧ b = 0) → ¬ (7 ≤ q ∧ q ≤ 11 ∧ b = 1) → ¬ (1 ≤ q ∧ q ≤ 6 ∧ b = 2) → h2 q b = h q b
def PX (n : Int) (h : mH) (y : Er) (h2 : mH) (v : Int) : Prop := FrX h h2 ∧ match y with
  | Sum.inl e => BdC n h2 e.1 e.2
  | Sum.inr r => v = dL r ∧ DtC h2 r ∧ WfD n r ∧ h2 24 0 9 = 0 ∧ h2 24 0 10 = -1
theorem k4_readText (T : TC h t n) {K : Int → mH → Prop} (k : ∀ h2 v, PX n h (txF t n) h2 v → K v h2) : OkI M4_readText [mR 24 0, mR 26 0, mI n] h K := by
  have hn := T.1.1
  refine s4_readText (k3_clear (k0_clear (fun h1 f1 bN e6 eL => ?_)))
  rintro _ rfl _ rfl _ rfl _ rfl
  have X1 : FrX h h1 := by
    intro q b z1 z2 z3
    rw [f1 q b z3]
    have c : ∀ (G : mH) (a v : Int), mSet G 7 1 a v q b = G q b := by
      intro G a v
      funext x
      unfold mSet
      rw [if_neg]
      rintro ⟨rfl, rfl, -⟩
      exact z2 ⟨by decide, by decide, rfl⟩
    rw [c, c, c]
  have Bh : DtB h1 p00 (fun _ => 0) s00 := by
    refine ⟨⟨⟨?_, ?_, ?_⟩, fun f a b => ?_, (wf00 hn.1).2.1⟩, ⟨bN, fun f a b => ?_, fun q a b => ?_, fun f a b => ?_, (wf00 hn.1).2.1, (wf00 hn.1).2.2.1⟩, fun f a b l c d => ?_, eL⟩
    · rw [f1 7 1 (by omega), mSet_kk (by decide), mSet_kk (by decide), mSet_e]; rfl
    · rw [f1 7 1 (by omega), mSet_kk (by decide), mSet_e]; rfl
    · rw [f1 7 1 (by omega), mSet_e]; rfl
    · have : f < 0 := b
      omega
    · have : f < 0 := b
      omega
    · have : q < 0 := b
      omega
    · have : f < 0 := b
      omega
    · have es : s00 (304 + f) = 0 := by
        unfold s00
        rw [if_neg (by omega), if_neg (by omega), if_neg (by omega), if_neg (by omega)]
      rw [e6, es, jb_0 (by omega) (by omega), jb_0 c (by omega)]
  generalize hH : mSet (mSet (mSet (mSet h1 24 0 7 0) 24 0 8 0) 24 0 9 0) 24 0 10 (-1) = H
  have oH : ∀ w : Nat, w ≠ 24 → H w = h1 w := fun w z => by rw [← hH, mSet_o z, mSet_o z, mSet_o z, mSet_o z]
  have g7 : H 24 0 7 = 0 := by rw [← hH, mSet_kk (by decide), mSet_kk (by decide), mSet_kk (by decide), mSet_e]
  have g8 : H 24 0 8 = 0 := by rw [← hH, mSet_kk (by decide), mSet_kk (by decide), mSet_e]
  have g9 : H 24 0 9 = 0 := by rw [← hH, mSet_kk (by decide), mSet_e]
  have g10 : H 24 0 10 = -1 := by rw [← hH, mSet_e]
  have X2 : FrX h H := by
    intro q b z1 z2 z3
    have c : ∀ (G : mH) (a v : Int), mSet G 24 0 a v q b = G q b := by
      intro G a v
      funext x
      unfold mSet
      rw [if_neg]
      rintro ⟨rfl, rfl, -⟩
      exact z1 ⟨by decide, by decide, rfl⟩
    rw [← hH, c, c, c, c]
    exact X1 q b z1 z2 z3
  have TH : TC H t n := ⟨T.1, fun j a b => by rw [X2 26 0 (by omega) (by omega) (by omega)]; exact T.2 j a b⟩
  refine k5_scan TH (fun h5 m F5 e20 m0 m9 hT hE hps => ?_)
  rintro _ rfl
  have o5 : ∀ w : Nat, w ≠ 24 → mSet h5 24 0 3 0 w = h5 w := fun w z => mSet_o z
  refine k4_first (t := t) (n := n) (m := m) mSet_e (by rw [o5 20 (by decide)]; exact e20) ⟨m0, m9⟩ (fun q a b => by rw [o5 21 (by decide), o5 22 (by decide), o5 23 (by decide)]; exact hT q a b) hE hn (by rw [mSet_kk (by decide), F5 24 0 (by omega)]; exact g10) (fun h6 C6 F6 e9 => ?_)
  have e9b : h6 24 0 9 = 0 := by rw [e9, mSet_kk (by decide), F5 24 0 (by omega)]; exact g9
  have X6 : FrX h h6 := by
    intro q b z1 z2 z3
    have z4 : ¬ (q = 24 ∧ b = 0) := fun w => z1 ⟨by omega, by omega, w.2⟩
    rw [F6.1 q b z4]
    have c : mSet h5 24 0 3 0 q b = h5 q b := by
      funext x
      unfold mSet
      rw [if_neg (fun w => z4 ⟨w.1, w.2.1⟩)]
    rw [c, F5 q b (fun w => z1 ⟨w.1, by omega, w.2.2⟩)]
    exact X2 q b z1 z2 z3
  have B6 : DtB h6 p00 (fun _ => 0) s00 := by
    refine Bh.fr (fun q a b => ?_) (fun q a b => ?_)
    · rw [F6.1 q 1 (by omega), mSet_o (by omega), F5 q 1 (by omega), oH q (by omega)]
    · rw [F6.1 q 2 (by omega), mSet_o (by omega), F5 q 2 (by omega), oH q (by omega)]
  have T6 : DtT h6 (fun _ => 0) (fun _ => 0) := by
    have a7 : h6 24 0 7 = 0 := by rw [F6.2.1, mSet_kk (by decide), F5 24 0 (by omega)]; exact g7
    have a8 : h6 24 0 8 = 0 := by rw [F6.2.2, mSet_kk (by decide), F5 24 0 (by omega)]; exact g8
    refine ⟨fun x a b => ?_, fun f a b => ?_⟩
    · have hc := cw_in (w := x) ⟨a, b⟩
      rw [a7, jb_0 (by omega) (by omega)]; rfl
    · rw [a8, jb_0 a (by omega)]; rfl
  have e206 : h6 20 0 3 = m + 1 := by rw [F6.1 20 0 (by decide), o5 20 (by decide)]; exact e20
  refine k4_lines (h := h6) (t := t) (n := n) e206 ⟨m0, m9⟩ 1000 h6 (Sum.inr r00) 0 (by decide) (fun h7 v P hv => ?_) ⟨FrG.rf h6, 0, by decide, C6, DtC.mk B6 T6, wf00 hn.1, e9b⟩ (fun r er => by injection er with er; rw [← er]; rfl)
  have P2 : PC t n 0 h6 (txF t n) h7 := P
  have hv2 : ∀ r, txF t n = Sum.inr r → v = dL r := hv
  clear P hv
  revert k P2 hv2
  generalize txF t n = y
  intro k P hv
  obtain ⟨F7, P⟩ := P
  have X7 : FrX h h7 := by
    intro q b z1 z2 z3
    rw [F7 q b (fun w => z1 ⟨by omega, by omega, w.2⟩) z2 z3]
    exact X6 q b z1 z2 z3
  cases y with
  | inl e => exact k h7 v ⟨X7, P⟩
  | inr r =>
    obtain ⟨j, -, C, D, W, hf⟩ : ∃ j, 0 ≤ j ∧ CUR h7 t n (dI r) j ∧ DtC h7 r ∧ WfD n r ∧ h7 24 0 9 = 0 := P
    have c10 : h7 24 0 10 = -1 := by
      obtain ⟨q, -, -, -, -, -, -, -, -, -, c⟩ := C
      exact c
    exact k h7 v ⟨X7, hv r rfl, D, W, hf, c10⟩
theorem Bk.bg {b : Int} (B : Bk h b p s) (h10 : ∀ j, 280 ≤ j → j < 304 → s j = 10000) : Bk h b p (bgS p s) := by
  obtain ⟨b1, b2, b3, b4, b5, b6⟩ := B
  obtain ⟨o1, o2, o3, o4⟩ := bgS_on b5 b6 h10
  refine ⟨?_, fun f a c l x y => ?_, fun q a c => ?_, fun f a c l x y => ?_, b5, bgS_wf b5 b6 h10⟩
  · unfold BN
    rw [o1 310 (by decide) (by decide), o1 308 (by decide) (by decide), o1 309 (by decide) (by decide), o1 311 (by decide) (by decide), o1 312 (by decide) (by decide), o1 313 (by decide) (by decide)]
    exact b1
  · rw [o3 f a c]; exact b2 f a c l x y
  · rw [o1 310 (by decide) (by decide)] at c
    have := b3 q a c
    have e : ∀ f, 0 ≤ f → f < 4 → bgS p s (7 * q + 3 + f) = s (7 * q + 3 + f) := fun f u v => by
      rw [show 7 * q + 3 + f = 7 * q + (3 + f) by omega]
      exact o2 q a c (3 + f) (by omega) (by omega)
    unfold pkL at this ⊢
    rw [o2 q a c 0 (by decide) (by decide), o2 q a c 1 (by decide) (by decide), o2 q a c 2 (by decide) (by decide), e 0 (by decide) (by decide), e 1 (by decide) (by decide), e 2 (by decide) (by decide), e 3 (by decide) (by decide)]
    exact this
  · rw [o4 f a c l x y]; exact b4 f a c l x y
theorem m_text (C : CG h σ) {K : Int → mH → Prop} {x1 : Int} (hx : mInR x1) (k : ∀ h2, CG h2 (s_text σ x1) → FrM h h2 → K (q_text σ x1) h2) : OkI M6_text [mR 25 0, mI x1] h K := by
  have C0 := C
  obtain ⟨c1, c2, ⟨i1, i2, i3⟩, ⟨u0, u1, u2, u3⟩, ⟨t1, t2, t3⟩, ⟨f1, f2, f3⟩⟩ := C
  have hno : x1 < 0 ∨ (gT σ).1 < x1 → K (-2) h := by
    intro z
    have := k h
    unfold s_text q_text at this
    rw [if_pos z, if_pos z] at this
    exact this C0 (FrM.rf h)
  refine s6_text ⟨hx, fun z => hno (Or.inl z), fun z => ?_⟩
  rw [t1]
  refine ⟨by omega, fun z2 => ?_, fun z2 => hno (Or.inr (by omega))⟩
  have zz : ¬ (x1 < 0 ∨ (gT σ).1 < x1) := by omega
  unfold s_text q_text at k
  rw [if_neg zz, if_neg zz] at k
  rintro _ rfl
  have T : TC (mSet h 25 0 1 0) (gT σ).2 x1 := ⟨⟨by omega, fun j a b => (t3 j a (by omega)).2⟩, fun j a b => by rw [mSet_o (by decide)]; exact (t3 j a (by omega)).1⟩
  refine k4_readText T (fun h1 v P => ?_)
  revert k P
  generalize txF (gT σ).2 x1 = y
  intro k P
  obtain ⟨X, P⟩ := P
  rintro _ rfl _ rfl
  rw [mSet_o (show (24 : Nat) ≠ 25 by decide)]
  generalize hH : mSet (mSet h1 25 0 2 (h1 24 0 9)) 25 0 3 (h1 24 0 10) = H
  have oH : ∀ w : Nat, w ≠ 25 → H w = h1 w := fun w z => by rw [← hH, mSet_o z, mSet_o z]
  have a2 : H 25 0 2 = h1 24 0 9 := by rw [← hH, mSet_kk (by decide), mSet_e]
  have a3 : H 25 0 3 = h1 24 0 10 := by rw [← hH, mSet_e]
  have a1 : H 25 0 1 = 0 := by rw [← hH, mSet_kk (by decide), mSet_kk (by decide), X 25 0 (by omega) (by omega) (by omega), mSet_e]
  have aj : ∀ j, j ≠ 1 → j ≠ 2 → j ≠ 3 → H 25 0 j = h 25 0 j := fun j z1 z2 z3 => by rw [← hH, mSet_kk z3, mSet_kk z2, X 25 0 (by omega) (by omega) (by omega), mSet_kk z1]
  have XH : ∀ q b, ¬ (q = 25) → ¬ (20 ≤ q ∧ q ≤ 24 ∧ b = 0) → ¬ (7 ≤ q ∧ q ≤ 11 ∧ b = 1) → ¬ (1 ≤ q ∧ q ≤ 6 ∧ b = 2) → H q b = h q b := fun q b z0 z1 z2 z3 => by rw [oH q z0, X q b z1 z2 z3, mSet_o z0]
  have bo : ∀ {c : Int} {u : Int → Int}, c ≠ 2 → Bk h c (gP σ) u → Bk H c (gP σ) u := fun hc B => B.fr (fun q a b => XH q _ (by omega) (by omega) (by omega) (by omega))
  clear hH
  rw [a2]
  cases y with
  | inl e =>
    have B : BdC x1 h1 e.1 e.2 := P
    refine ⟨B.ne.2, fun w => absurd w B.ne.1, fun _ => k H ⟨c1.fr (fun q a b => XH q 0 (by omega) (by omega) (by omega) (by omega)), bo (by decide) c2, ⟨?_, i2, fun w => bo (by decide) (i3 w)⟩, ⟨?_, ?_, u2, fun q a b => ?_⟩, ⟨a1, show (0 : Int) ≤ 0 ∧ (0 : Int) ≤ 900 by decide, fun j a b => ?_⟩, ⟨a2.trans B.1, a3.trans B.2.1, ?_, ?_⟩⟩ (fun q hq i => XH q i (by omega) (by omega) (by omega) (by omega))⟩
    · rw [aj 12 (by decide) (by decide) (by decide)]; exact i1
    · rw [aj 14 (by decide) (by decide) (by decide)]; exact u0
    · rw [aj 15 (by decide) (by decide) (by decide)]; exact u1
    · rw [aj 14 (by decide) (by decide) (by decide)]; exact bo (by omega) (u3 q a b)
    · have : j < 0 := b
      omega
    · show mInR e.1
      have := B.2.2.1
      omega
    · show mInR e.2
      have := B.2.2.2.1
      omega
  | inr r =>
    obtain ⟨ev, D, W, g9, g10⟩ : v = dL r ∧ DtC h1 r ∧ WfD x1 r ∧ h1 24 0 9 = 0 ∧ h1 24 0 10 = -1 := P
    refine ⟨by rw [g9]; decide, fun _ => ?_, fun w => absurd g9 w⟩
    have D2 : Pl H 1 (dP r) (dN r) := D.1.fr (fun q a b => by rw [oH q (by omega)])
    have B2 : Bk H 2 (dP r) (dS r) := D.2.1.fr (fun q a b => by rw [oH q (by omega)])
    refine k3_copyFrom (fun h5 P5 F5 => k0_copyFrom (by decide) (fun h6 B6 F6 => ?_))
    rintro _ rfl _ rfl
    rw [ev]
    have B5 : Bk h5 2 (dP r) (dS r) := B2.fr (fun q a b => F5 q 2 (by omega))
    have B6b := (B6 _ _ B5).bg W.2.2.2.2.1
    have P6 : Pl h6 0 (dP r) (dN r) := (P5 _ _ D2).fr (fun q a b => F6 q 0 (by omega))
    have o7 : ∀ w : Nat, w ≠ 25 → mSet (mSet h6 25 0 12 0) 25 0 15 0 w = h6 w := fun w z => by rw [mSet_o z, mSet_o z]
    have j7 : ∀ j, j ≠ 12 → j ≠ 15 → mSet (mSet h6 25 0 12 0) 25 0 15 0 25 0 j = H 25 0 j := fun j z1 z2 => by rw [mSet_kk z2, mSet_kk z1, F6 25 0 (by omega), F5 25 0 (by omega)]
    refine k _ ⟨P6.fr (fun q a b => by rw [o7 q (by omega)]), B6b.fr (fun q a b => by rw [o7 q (by omega)]), ⟨?_, Or.inl rfl, fun w => by cases w⟩, ⟨?_, mSet_e, show (0 : Int) ≤ 0 ∧ (0 : Int) ≤ 20 by decide, fun q a b => ?_⟩, ⟨?_, show (0 : Int) ≤ 0 ∧ (0 : Int) ≤ 900 by decide, fun j a b => ?_⟩, ⟨?_, ?_, show mInR 0 by decide, show mInR (-1) by decide⟩⟩ (fun q hq i => ?_)
    · rw [mSet_kk (by decide), mSet_e]; rfl
    · rw [j7 14 (by decide) (by decide), aj 14 (by decide) (by decide) (by decide)]; exact u0
    · have : q < 0 := b
      omega
    · rw [j7 1 (by decide) (by decide)]; exact a1
    · have : j < 0 := b
      omega
    · rw [j7 2 (by decide) (by decide)]; exact a2.trans g9
    · rw [j7 3 (by decide) (by decide)]; exact a3.trans g10
    · rw [o7 q (by omega), F6 q i (by omega), F5 q i (by omega)]
      exact XH q i (by omega) (by omega) (by omega) (by omega)
end MTEXT
