/-! the class reads a line: factor, band, join, risk -/
section READ3
variable {h h2 h3 : mH} {t : Int → Int} {n i j : Int} {r : Rd} {p : Pn} {nm s : Int → Int}
/-- the factor's own cells -/
def fHp (h : mH) (N x v : Int) : mH := mSet (mSet (mSet (mSet (mSet h 8 1 N x) 9 1 N v) 10 1 N 1000) 11 1 N 50000) 7 1 0 (N + 1)
theorem k3_addFactor {K : mH → Prop} {x v N : Int} (hN : h 7 1 0 = N) (h0 : 0 ≤ N ∧ N < 4) (k : K (fHp h N x v)) : OkV M3_addFactor [mR 7 1, mI x, mI v] h K := by
  refine s3_addFactor ?_
  rw [hN]
  refine ⟨by omega, fun z => by omega, fun _ => ⟨by omega, ?_⟩⟩
  rintro _ rfl
  rw [mSet_o (show (7 : Nat) ≠ 8 by decide), hN]
  refine ⟨by omega, ?_⟩
  rintro _ rfl
  rw [mSet_o (show (7 : Nat) ≠ 9 by decide), mSet_o (show (7 : Nat) ≠ 8 by decide), hN]
  refine ⟨by omega, ?_⟩
  rintro _ rfl
  rw [mSet_o (show (7 : Nat) ≠ 10 by decide), mSet_o (show (7 : Nat) ≠ 9 by decide), mSet_o (show (7 : Nat) ≠ 8 by decide), hN]
  refine ⟨by omega, ?_⟩
  rintro _ rfl
  rw [mSet_o (show (7 : Nat) ≠ 11 by decide), mSet_o (show (7 : Nat) ≠ 10 by decide), mSet_o (show (7 : Nat) ≠ 9 by decide), mSet_o (show (7 : Nat) ≠ 8 by decide), hN]
  rintro _ rfl
  exact k
theorem fHp_fr {N x v : Int} : FrG h (fHp h N x v) ∧ ∀ q : Nat, 12 ≤ q ∨ q < 7 → fHp h N x v q = h q := by
  unfold fHp
  exact ⟨((((FrG.set (by omega)).tr (FrG.set (by omega))).tr (FrG.set (by omega))).tr (FrG.set (by omega))).tr (FrG.set (by omega)), fun q a => by rw [mSet_o (by omega), mSet_o (by omega), mSet_o (by omega), mSet_o (by omega), mSet_o (by omega)]⟩
theorem fHp_d (D : DtB h p nm s) {x v : Int} (hx : mInR x) (wp : WfP (facP p v)) (ws : WfS (facP p v) s) (h10 : ∀ j, 280 ≤ j → j < 304 → s j = 10000) : DtB (fHp h (nf p) x v) (facP p v) (up nm (nf p) x) s := by
  obtain ⟨d1, ⟨b1, b2, b3, b4, b5, b6⟩, d3, d4⟩ := D
  have ho := (fHp_fr (h := h) (N := nf p) (x := x) (v := v)).2
  have hn := b5.1.1
  have hn2 := wp.1.1
  have en : nf (facP p v) = nf p + 1 := rfl
  refine ⟨⟨⟨mSet_e, ?_, ?_⟩, fun f a b => ?_, wp⟩, ⟨?_, fun f a b l c d => ?_, ?_, fun f a b l c d => ?_, wp, ws⟩, ?_, ?_⟩
  · unfold fHp
    rw [mSet_kk (by decide), mSet_o (by decide), mSet_o (by decide), mSet_o (by decide), mSet_o (by decide)]; exact d1.1.2.1
  · unfold fHp
    rw [mSet_kk (by decide), mSet_o (by decide), mSet_o (by decide), mSet_o (by decide), mSet_o (by decide)]; exact d1.1.2.2
  · rw [en] at b
    show fHp h (nf p) x v 8 1 f = up nm (nf p) x f ∧ fHp h (nf p) x v 9 1 f = up (lv p) (nf p) v f ∧ fHp h (nf p) x v 10 1 f = up (lo p) (nf p) 1000 f ∧ fHp h (nf p) x v 11 1 f = up (hi p) (nf p) 50000 f ∧ mInR (up nm (nf p) x f)
    unfold fHp
    by_cases u : f = nf p
    · rw [u, up_same, up_same, up_same, up_same]
      refine ⟨?_, ?_, ?_, ?_, hx⟩
      · rw [mSet_o (by decide), mSet_o (by decide), mSet_o (by decide), mSet_o (by decide), mSet_e]
      · rw [mSet_o (by decide), mSet_o (by decide), mSet_o (by decide), mSet_e]
      · rw [mSet_o (by decide), mSet_o (by decide), mSet_e]
      · rw [mSet_o (by decide), mSet_e]
    · have q := d1.2.1 f a (by omega)
      rw [up_ne u, up_ne u, up_ne u, up_ne u]
      refine ⟨?_, ?_, ?_, ?_, q.2.2.2.2⟩
      · rw [mSet_o (by decide), mSet_o (by decide), mSet_o (by decide), mSet_o (by decide), mSet_kk u]; exact q.1
      · rw [mSet_o (by decide), mSet_o (by decide), mSet_o (by decide), mSet_kk u, mSet_o (by decide)]; exact q.2.1
      · rw [mSet_o (by decide), mSet_o (by decide), mSet_kk u, mSet_o (by decide), mSet_o (by decide)]; exact q.2.2.1
      · rw [mSet_o (by decide), mSet_kk u, mSet_o (by decide), mSet_o (by decide), mSet_o (by decide)]; exact q.2.2.2.1
  · unfold BN; rw [ho 1 (by omega)]; exact b1
  · rw [ho 1 (by omega)]; exact d3 f a (by omega) l c d
  · unfold BR; rw [ho 2 (by omega), ho 3 (by omega), ho 4 (by omega), ho 5 (by omega)]; exact b3
  · have hl := wp.2 f a b
    rw [ho 6 (by omega), d4 (8 * f + l) (by omega) (by omega), h10 _ (by omega) (by omega)]
  · rw [ho 1 (by omega)]; exact d3
  · rw [ho 6 (by omega)]; exact d4
theorem k4_readFactor (C : CUR h t n (dI r) j) (D : DtC h r) (W : WfD n r) (hf : h 24 0 9 = 0) {K : mH → Prop} (k : ∀ h2, PC t n j h (bdFac t n r) h2 → K h2) : OkV M4_readFactor [mR 24 0] h K := by
  have hn := W.2.1.1.1
  have hm := W.2.2.1.1.1
  have eM : h 1 2 0 = dS r 310 := D.2.1.m
  have eN : h 7 1 0 = nf (dP r) := D.1.n
  refine s4_readFactor ?_
  rw [eM]
  refine ⟨by omega, fun z => ?_, fun z => k4_fail C hf (by decide) (fun h2 B F => k h2 ?_)⟩
  · rw [eN]
    refine ⟨by omega, fun z4 => ?_, fun z4 => k4_fail C hf (by decide) (fun h2 B F => k h2 ?_)⟩
    · have base : bdFac t n r = (if tS t n (tE t n (dI r)) = 1 then (if fnd (dP r) (dN r) (tV t n (tE t n (dI r))) = -1 then nuK t n (tE t n (tE t n (dI r))) 1 6 (fun v => Sum.inr (tE t n (tE t n (tE t n (dI r))), facP (dP r) v, up (dN r) (nf (dP r)) (tV t n (tE t n (dI r))), dS r, dW r, dB r, dL r)) else badE 3 (tP t n (tE t n (dI r)))) else badE 1 (tP t n (tE t n (dI r)))) := by
        unfold bdFac
        rw [if_neg (by omega), if_neg (by omega)]
      refine k4_advance C (fun h1 j1 C1 a1 _ F1 e1 _ => ?_)
      have hf1 := e1.trans hf
      have D1 := D.f24 F1
      have hk := C1.kR
      have hck := ck_eq (k := 0) (tS_bd (t := t) (n := n) (i := tE t n (dI r)))
      rw [hk.1]
      refine ⟨by rw [← hk.1]; exact hk.2.1, fun w => ?_, fun w => k4_fail C1 hf1 (by decide) (fun h2 B F => k h2 ?_)⟩
      · have w1 := hck.2.2.1.1 w
        rw [if_pos w1] at base
        have hv := tV_bd (t := t) (n := n) (i := tE t n (dI r)) (Or.inr (Or.inl w1))
        have e5 : h1 24 0 5 = tV t n (tE t n (dI r)) := C1.tk.2.2.2.2.1 w1
        rw [e5]
        have hfb := fnd_bd W (tV t n (tE t n (dI r)))
        refine k3_find D1.1 (by omega) ?_
        show (mInR (fnd (dP r) (dN r) (tV t n (tE t n (dI r))))) ∧ (fnd (dP r) (dN r) (tV t n (tE t n (dI r))) = -1 → _) ∧ (¬ fnd (dP r) (dN r) (tV t n (tE t n (dI r))) = -1 → _)
        refine ⟨by omega, fun y => ?_, fun y => k4_fail C1 hf1 (by decide) (fun h2 B F => k h2 ?_)⟩
        · rw [if_pos y] at base
          refine k4_advance C1 (fun h2 j2 C2 a2 _ F2 e2 _ => k4_num C2 (e2.trans hf1) (by decide) (by decide) (fun h3 j3 e3 a3 b3 C3 i3 F3 g3 => ?_) (fun h3 k3 e3 B3 F3 => ?_))
          · rw [e3] at base
            have F4 := (F1.tr F2).tr F3
            have D4 := D.b.f24 F4
            have W4 := wf_fac W (i := tE t n (tE t n (tE t n (dI r)))) (v := tV t n (tE t n (tE t n (dI r)))) (x := tV t n (tE t n (dI r))) C3.b (by omega) (by omega) ⟨a3, b3⟩ (by omega)
            have hs := fHp_fr (h := h3) (N := nf (dP r)) (x := tV t n (tE t n (dI r))) (v := tV t n (tE t n (tE t n (dI r))))
            refine k3_addFactor (N := nf (dP r)) (by rw [F4.1 7 1 (by decide)]; exact eN) (by omega) (k _ ?_)
            rw [base]
            refine ⟨F4.g.tr hs.1, j3, by omega, C3.fr (by rw [hs.2 24 (by omega)]) (fun q a b => by rw [hs.2 q (by omega)]), DtC.mk (fHp_d D4 (by omega) W4.2.1 W4.2.2.1 W.2.2.2.2.1) ((D.tt.fr F4.2.1 F4.2.2).fr (by rw [hs.2 24 (by omega)]) (by rw [hs.2 24 (by omega)])), W4, by rw [hs.2 24 (by omega)]; exact g3⟩
          · rw [e3] at base
            have F4 := (F1.tr F2).tr F3
            have hs := fHp_fr (h := h3) (N := nf (dP r)) (x := tV t n (tE t n (dI r))) (v := 1)
            refine k3_addFactor (N := nf (dP r)) (by rw [F4.1 7 1 (by decide)]; exact eN) (by omega) (k _ ?_)
            rw [base]
            exact ⟨F4.g.tr hs.1, B3.fr (by rw [hs.2 24 (by omega)])⟩
        · rw [if_neg y] at base
          rw [base]
          exact ⟨(F1.tr F).g, B⟩
      · rw [if_neg (fun u => w (hck.2.2.1.2 u))] at base
        rw [base]
        exact ⟨(F1.tr F).g, B⟩
    · have base : bdFac t n r = badE 2 (tP t n (dI r)) := by unfold bdFac; rw [if_neg (by omega), if_pos (by omega)]
      rw [base]
      exact ⟨F.g, B⟩
  · have base : bdFac t n r = badE 1 (tP t n (dI r)) := by unfold bdFac; rw [if_pos (by omega)]
    rw [base]
    exact ⟨F.g, B⟩
theorem k4_facHere (C : CUR h t n (tE t n (dI r)) j) (D : DtC h r) (W : WfD n r) (hf : h 24 0 9 = 0) {K : Int → mH → Prop}
    (k1 : ∀ f, (∀ ok, faK t n r ok = ok f) → 0 ≤ f → f < nf (dP r) → K f h)
    (k0 : ∀ h2 k p, (∀ ok, faK t n r ok = badE k p) → BdC n h2 k p → Fr24 h h2 → K (-1) h2) : OkI M4_factorHere [mR 24 0] h K := by
  have hk := C.kR
  have hck := ck_eq (k := 0) (tS_bd (t := t) (n := n) (i := tE t n (dI r)))
  have hfb := fnd_bd W (tV t n (tE t n (dI r)))
  have hn := W.2.1.1.1
  refine s4_factorHere ?_
  rw [hk.1]
  refine ⟨by rw [← hk.1]; exact hk.2.1, fun w => ?_, fun w => ?_⟩
  · refine s4_factorHere_23 ?_
    rw [hk.1]
    refine ⟨by rw [← hk.1]; exact hk.2.1, fun u => absurd u w, fun _ => k4_fail C hf (by decide) (fun h2 B F => ?_)⟩
    exact k0 h2 1 _ (fun ok => by unfold faK; rw [if_neg (fun u => w (hck.2.2.1.2 u))]) B F
  · have w1 := hck.2.2.1.1 w
    have hv := tV_bd (t := t) (n := n) (i := tE t n (dI r)) (Or.inr (Or.inl w1))
    have e5 : h 24 0 5 = tV t n (tE t n (dI r)) := C.tk.2.2.2.2.1 w1
    rw [e5]
    refine k3_find D.1 (by omega) ?_
    show A4_factorHere_23 K (fnd (dP r) (dN r) (tV t n (tE t n (dI r)))) h
    refine s4_factorHere_23 ?_
    rw [hk.1]
    refine ⟨by rw [← hk.1]; exact hk.2.1, fun _ => ⟨by omega, fun y => ?_, fun y => k4_fail C hf (by decide) (fun h2 B F => ?_)⟩, fun u => absurd w u⟩
    · exact k1 _ (fun ok => by unfold faK; rw [if_pos w1, if_neg y]) (by omega) (by omega)
    · rw [y]
      exact k0 h2 4 _ (fun ok => by unfold faK; rw [if_pos w1, if_pos y]) B F
theorem bHp_d (D : DtB h p nm s) {f a b : Int} (hf : 0 ≤ f ∧ f < nf p) (wp : WfP (bandP p f a b)) (ws : WfS (bandP p f a b) s) (e10 : ∀ g, h2 10 1 g = if g = f then a else h 10 1 g) (e11 : ∀ g, h2 11 1 g = if g = f then b else h 11 1 g) (eo : ∀ q i, ¬ (q = 24 ∧ i = 0) → ¬ (q = 10 ∧ i = 1) → ¬ (q = 11 ∧ i = 1) → h2 q i = h q i) : DtB h2 (bandP p f a b) nm s := by
  obtain ⟨d1, ⟨b1, b2, b3, b4, b5, b6⟩, d3, d4⟩ := D
  refine ⟨⟨?_, fun g c d => ?_, wp⟩, ⟨?_, fun g c d l x y => ?_, ?_, fun g c d l x y => ?_, wp, ws⟩, ?_, ?_⟩
  · rw [eo 7 1 (by decide) (by decide) (by decide)]; exact d1.1
  · have q := d1.2.1 g c d
    rw [eo 8 1 (by decide) (by decide) (by decide), eo 9 1 (by decide) (by decide) (by decide), e10 g, e11 g]
    refine ⟨q.1, q.2.1, ?_, ?_, q.2.2.2.2⟩
    · show (if g = f then a else h 10 1 g) = up (lo p) f a g
      unfold up
      by_cases u : g = f
      · rw [if_pos u, if_pos u]
      · rw [if_neg u, if_neg u]; exact q.2.2.1
    · show (if g = f then b else h 11 1 g) = up (hi p) f b g
      unfold up
      by_cases u : g = f
      · rw [if_pos u, if_pos u]
      · rw [if_neg u, if_neg u]; exact q.2.2.2.1
  · unfold BN; rw [eo 1 2 (by decide) (by decide) (by decide)]; exact b1
  · rw [eo 1 2 (by decide) (by decide) (by decide)]; exact b2 g c d l x y
  · unfold BR; rw [eo 2 2 (by decide) (by decide) (by decide), eo 3 2 (by decide) (by decide) (by decide), eo 4 2 (by decide) (by decide) (by decide), eo 5 2 (by decide) (by decide) (by decide)]; exact b3
  · rw [eo 6 2 (by decide) (by decide) (by decide)]; exact b4 g c d l x y
  · rw [eo 1 2 (by decide) (by decide) (by decide)]; exact d3
  · rw [eo 6 2 (by decide) (by decide) (by decide)]; exact d4
theorem k4_readBand (C : CUR h t n (dI r) j) (D : DtC h r) (W : WfD n r) (hf : h 24 0 9 = 0) {K : mH → Prop} (k : ∀ h2, PC t n j h (bdBand t n r) h2 → K h2) : OkV M4_readBand [mR 24 0] h K := by
  have hn := W.2.1.1.1
  refine s4_readBand (k4_advance C (fun h1 j1 C1 a1 _ F1 e1 _ => ?_))
  have hf1 := e1.trans hf
  have D1 := D.f24 F1
  refine k4_facHere C1 D1 W hf1 (fun f e f0 f1 => ?_) (fun h2 k1 p e B F => ?_)
  · have hB := W.2.2.2.2.2.2.1 f
    have hjb := D1.tt.2 f f0 (by omega)
    refine k3_hasFactor D1.1 (by omega) (fun _ _ => ⟨by decide, fun _ => ?_, fun z => absurd z (by decide)⟩) (fun z => absurd ⟨f0, f1⟩ z)
    by_cases z : dB r f = 0
    · rw [z] at hjb
      have e0 : mAnd (mShr (h1 24 0 8) f) 1 = 0 := by rw [jb_01 f0 (by omega), hjb]; rfl
      rw [e0]
      refine ⟨by decide, fun _ => ?_, fun w => absurd rfl w⟩
      rintro _ rfl
      have C2 := C1.set7 (m := 8) (v := mOr (h1 24 0 8) (mShl 1 f)) (by decide)
      have F2 : FrG h1 (mSet h1 24 0 8 (mOr (h1 24 0 8) (mShl 1 f))) := FrG.set (by omega)
      have f2 : mSet h1 24 0 8 (mOr (h1 24 0 8) (mShl 1 f)) 24 0 9 = 0 := by rw [mSet_kk (by decide)]; exact hf1
      have T2 : DtT (mSet h1 24 0 8 (mOr (h1 24 0 8) (mShl 1 f))) (dW r) (up (dB r) f 1) := by
        refine ⟨fun x a b => ?_, fun g a b => ?_⟩
        · rw [mSet_kk (by decide)]; exact D1.tt.1 x a b
        · rw [mSet_e, jb_or f0 (by omega) a (by omega), D1.tt.2 g a b]
          unfold up
          by_cases y : g = f
          · rw [if_pos y, decide_eq_true y]; simp
          · rw [if_neg y, decide_eq_false y, Bool.or_false]
      refine k4_advance C2 (fun h3 j3 C3 a3 _ F3 e3 _ => k4_num C3 (e3.trans f2) (by decide) (by decide) (fun h4 j4 q4 a4 b4 C4 i4 F4 g4 => ⟨by omega, ?_⟩) (fun h4 k4 q4 B4 F4 => ⟨by omega, ?_⟩))
      · rintro _ rfl
        refine k4_num (C4.set (by decide)) (by rw [mSet_o (by decide)]; exact g4) (by decide) (by decide) (fun h5 j5 q5 a5 b5 C5 i5 F5 g5 => ⟨by omega, ?_⟩) (fun h5 k5 q5 B5 F5 => ⟨by omega, ?_⟩)
        · rintro _ rfl
          have eb : bdBand t n r = Sum.inr (tE t n (tE t n (tE t n (tE t n (dI r)))), bandP (dP r) f (tV t n (tE t n (tE t n (dI r)))) (tV t n (tE t n (tE t n (tE t n (dI r))))), dN r, dS r, dW r, up (dB r) f 1, dL r) := by
            unfold bdBand
            rw [e, if_pos z, q4, q5]
          refine k _ ?_
          rw [eb]
          have W5 := wf_band W (i := tE t n (tE t n (tE t n (tE t n (dI r))))) C5.b ⟨f0, f1⟩ ⟨a4, b4⟩ ⟨a5, b5⟩
          have F34 := F3.tr F4
          refine ⟨((((F1.g.tr F2).tr F34.g).tr (FrG.set (by omega))).tr F5.g).tr (FrG.set (by omega)), j5, by omega, C5.set (by decide), DtC.mk ?_ ?_, W5, by rw [mSet_o (by decide)]; exact g5⟩
          · refine bHp_d D.b ⟨f0, f1⟩ W5.2.1 W5.2.2.1 (fun g => ?_) (fun g => ?_) (fun q x y1 y2 y3 => ?_)
            · rw [mSet_o (by decide), F5.1 10 1 (by decide), mSet_rs, rs_same, F34.1 10 1 (by decide), mSet_o (by decide), F1.1 10 1 (by decide)]; rfl
            · rw [mSet_rs, rs_same, F5.1 11 1 (by decide), mSet_o (by decide), F34.1 11 1 (by decide), mSet_o (by decide), F1.1 11 1 (by decide)]; rfl
            · have c : ∀ (H : mH) (m : Nat) (i a v : Int), ¬ (q = m ∧ x = i) → mSet H m i a v q x = H q x := by
                intro H m i a v w
                funext b
                unfold mSet
                rw [if_neg (fun u => w ⟨u.1, u.2.1⟩)]
              rw [c _ 11 1 _ _ y3, F5.1 q x y1, c _ 10 1 _ _ y2, F34.1 q x y1, c _ 24 0 _ _ y1, F1.1 q x y1]
          · exact (((((T2.fr F34.2.1 F34.2.2).set (by decide)).fr F5.2.1 F5.2.2)).set (by decide))
        · rintro _ rfl
          refine k _ ?_
          have eb : bdBand t n r = badE k5 (tP t n (tE t n (tE t n (tE t n (dI r))))) := by
            unfold bdBand
            rw [e, if_pos z, q4, q5]
          rw [eb]
          exact ⟨((((F1.g.tr F2).tr (F3.tr F4).g).tr (FrG.set (by omega))).tr F5.g).tr (FrG.set (by omega)), B5.set (by decide)⟩
      · rintro _ rfl
        refine k4_numF (B4.set (by decide)) (by decide) (by decide) ⟨by omega, ?_⟩
        rintro _ rfl
        refine k _ ?_
        have eb : bdBand t n r = badE k4 (tP t n (tE t n (tE t n (dI r)))) := by
          unfold bdBand
          rw [e, if_pos z, q4]
        rw [eb]
        exact ⟨(((F1.g.tr F2).tr (F3.tr F4).g).tr (FrG.set (by omega))).tr (FrG.set (by omega)), (B4.set (by decide)).set (by decide)⟩
    · have z1 : dB r f = 1 := by omega
      rw [z1] at hjb
      have e0 : mAnd (mShr (h1 24 0 8) f) 1 = 1 := by rw [jb_01 f0 (by omega), hjb]; rfl
      rw [e0]
      refine ⟨by decide, fun w => absurd w (by decide), fun _ => k4_fail C1 hf1 (by decide) (fun h2 B F => k h2 ?_)⟩
      have eb : bdBand t n r = badE 3 (tP t n (tE t n (dI r))) := by
        unfold bdBand
        rw [e, if_neg z]
      rw [eb]
      exact ⟨(F1.tr F).g, B⟩
  · have D2 := D1.f24 F
    refine k3_hasFactor D2.1 (by decide) (fun z _ => by omega) (fun _ => ⟨by decide, fun z => absurd rfl z, fun _ => k h2 ?_⟩)
    have eb : bdBand t n r = badE k1 p := by unfold bdBand; rw [e]
    rw [eb]
    exact ⟨(F1.tr F).g, B⟩
theorem k4_readJoin (C : CUR h t n (dI r) j) (D : DtC h r) (W : WfD n r) (hf : h 24 0 9 = 0) {K : mH → Prop} (k : ∀ h2, PC t n j h (bdJoin t n r) h2 → K h2) : OkV M4_readJoin [mR 24 0] h K := by
  have hn := W.2.1.1.1
  refine s4_readJoin (k4_advance C (fun h1 j1 C1 a1 _ F1 e1 _ => ?_))
  have hf1 := e1.trans hf
  have D1 := D.f24 F1
  refine k4_facHere C1 D1 W hf1 (fun f e f0 f1 => ?_) (fun h2 k1 p e B F => ?_)
  · have hlv := W.2.1.2 f f0 f1
    refine k3_hasFactor D1.1 (by omega) (fun _ _ => ⟨by decide, fun _ => ?_, fun z => absurd z (by decide)⟩) (fun z => absurd ⟨f0, f1⟩ z)
    refine k4_advance C1 (fun h2 j2 C2 a2 _ F2 e2 _ => ?_)
    have hf2 := e2.trans hf1
    have F12 := F1.tr F2
    have D2 := D.f24 F12
    have hk := C2.kR
    have hck := ck_eq (k := 0) (tS_bd (t := t) (n := n) (i := tE t n (tE t n (dI r))))
    have hb := fun ok => e ok
    have base : bdJoin t n r = (if tS t n (tE t n (tE t n (dI r))) = 2 then (if tV t n (tE t n (tE t n (dI r))) < lv (dP r) f - 1 then (if jb (dS r (304 + f)) (tV t n (tE t n (tE t n (dI r)))) = true then badE 3 (tP t n (tE t n (tE t n (dI r)))) else Sum.inr (tE t n (tE t n (tE t n (dI r))), dP r, dN r, up (dS r) (304 + f) (mOr (dS r (304 + f)) (mShl 1 (tV t n (tE t n (tE t n (dI r)))))), dW r, dB r, dL r)) else badE 2 (tP t n (tE t n (tE t n (dI r))))) else badE 1 (tP t n (tE t n (tE t n (dI r))))) := by
      unfold bdJoin
      rw [e]
    have eL : h2 9 1 f = lv (dP r) f := D2.1.lv f0 f1
    have main : (tS t n (tE t n (tE t n (dI r))) = 2 → tV t n (tE t n (tE t n (dI r))) < lv (dP r) f - 1 → jb (dS r (304 + f)) (tV t n (tE t n (tE t n (dI r)))) = false) → A4_readJoin_68 K f (h2 24 0 5) h2 := by
      intro hj
      refine s4_readJoin_68 ⟨by omega, ?_⟩
      rw [eL]
      refine k4_num C2 hf2 (by decide) (by omega) (fun h3 j3 q3 a3 b3 C3 i3 F3 g3 => ⟨by rw [g3]; decide, fun z => absurd g3 z, fun _ => ?_⟩) (fun h3 k3 q3 B3 F3 => ⟨B3.ne.2, fun _ => k h3 ?_, fun z => absurd z B3.ne.1⟩)
      · have hS : tS t n (tE t n (tE t n (dI r))) = 2 := by
          by_cases u : tS t n (tE t n (tE t n (dI r))) = 2
          · exact u
          · have := q3 (fun _ => badE 77 77)
            unfold nuK at this
            rw [if_neg u] at this
            injection this with this
            injection this with this
            omega
        have hrv : rv (h2 24 0 5) (tV t n (tE t n (tE t n (dI r)))) := C2.tk.2.2.2.2.2 hS
        have ev : h2 24 0 5 = tV t n (tE t n (tE t n (dI r))) := by unfold rv at hrv; omega
        have hj2 := hj hS (by omega)
        have F123 := F12.tr F3
        have D3 := D.b.f24 F123
        rw [ev]
        refine s0_mark (k_slot (by omega) (by omega) ?_)
        rintro _ rfl
        refine k _ ?_
        rw [if_pos hS, if_pos (by omega), if_neg (by rw [hj2]; decide)] at base
        rw [base]
        have W3 := wf_join W (i := tE t n (tE t n (tE t n (dI r)))) (f := f) (l := tV t n (tE t n (tE t n (dI r)))) C3.b ⟨f0, f1⟩ ⟨by omega, by omega⟩
        refine ⟨F123.g.tr (FrG.set (by omega)), j3, by omega, C3.set (by decide), DtC.mk ?_ ((D.tt.fr F123.2.1 F123.2.2).set (by decide)), W3, by rw [mSet_o (by decide)]; exact g3⟩
        obtain ⟨d1, ⟨b1, b2, b3, b4, b5, b6⟩, d3, d4⟩ := D3
        have hm := W.2.2.1.1.1
        have bits : ∀ g, 0 ≤ g → g < 4 → ∀ l, 0 ≤ l → l < 8 → jb (mSet h3 1 2 6 (mOr (h3 1 2 6) (mShl 1 (8 * f + tV t n (tE t n (tE t n (dI r)))))) 1 2 6) (8 * g + l) = jb (up (dS r) (304 + f) (mOr (dS r (304 + f)) (mShl 1 (tV t n (tE t n (tE t n (dI r)))))) (304 + g)) l := by
          intro g c d l x y
          rw [mSet_e, jb_or (by omega) (by omega) (by omega) (by omega), d3 g c d l x y]
          by_cases u : g = f
          · rw [u, up_same, jb_or (by omega) (by omega) x (by omega)]
            congr 1
            rw [decide_eq_decide]
            omega
          · rw [up_ne (by omega), decide_eq_false (by omega), Bool.or_false]
        refine ⟨d1.fr (fun q a b => by rw [mSet_o (by omega)]), ⟨?_, fun g c d l x y => bits g c (by have : g < nf (dP r) := d; omega) l x y, fun q c d => ?_, fun g c d l x y => ?_, b5, W3.2.2.1⟩, bits, fun x c d => by rw [mSet_o (by decide)]; exact d4 x c d⟩
        · show BN _ 2 (up (dS r) (304 + f) _)
          unfold BN at b1 ⊢
          rw [mSet_kk (by decide), mSet_kk (by decide), mSet_kk (by decide), mSet_kk (by decide), mSet_kk (by decide), mSet_kk (by decide), up_ne (by omega), up_ne (by omega), up_ne (by omega), up_ne (by omega), up_ne (by omega), up_ne (by omega)]
          exact b1
        · have d2 : q < up (dS r) (304 + f) (mOr (dS r (304 + f)) (mShl 1 (tV t n (tE t n (tE t n (dI r)))))) 310 := d
          rw [up_ne (by omega)] at d2
          have := b3 q c d2
          show _ = up (dS r) (304 + f) _ _ ∧ _ = up (dS r) (304 + f) _ _ ∧ _ = up (dS r) (304 + f) _ _ ∧ _ = pkL (up (dS r) (304 + f) _) q
          unfold pkL at this ⊢
          rw [mSet_o (by decide), mSet_o (by decide), mSet_o (by decide), mSet_o (by decide), up_ne (by omega), up_ne (by omega), up_ne (by omega), up_ne (by omega), up_ne (by omega), up_ne (by omega), up_ne (by omega)]
          exact this
        · have hg := W.2.1.2 g c d
          have d2 : g < nf (dP r) := d
          have y2 : l < lv (dP r) g := y
          rw [mSet_o (by decide)]
          show _ = up (dS r) (304 + f) _ _
          rw [up_ne (by omega)]
          exact b4 g c d l x y
      · by_cases u : tS t n (tE t n (tE t n (dI r))) = 2
        · have hv := tV_bd (t := t) (n := n) (i := tE t n (tE t n (dI r))) (Or.inr (Or.inr u))
          have hq := q3 (fun _ => badE 77 77)
          unfold nuK at hq
          rw [if_pos u] at hq
          by_cases v : 0 ≤ tV t n (tE t n (tE t n (dI r))) ∧ tV t n (tE t n (tE t n (dI r))) ≤ lv (dP r) f - 2
          · rw [if_pos v] at hq
            injection hq with hq
            injection hq with hq
            have := B3.2.2.1
            omega
          · rw [if_neg v] at hq
            have e2 : k3 = 2 := by
              injection hq with hq
              injection hq with hq
              exact hq.symm
            rw [if_pos u, if_neg (by omega), ← e2] at base
            rw [base]
            exact ⟨(F12.tr F3).g, B3⟩
        · have hq := q3 (fun _ => badE 77 77)
          unfold nuK at hq
          rw [if_neg u] at hq
          have e2 : k3 = 1 := by
            injection hq with hq
            injection hq with hq
            exact hq.symm
          rw [if_neg u, ← e2] at base
          rw [base]
          exact ⟨(F12.tr F3).g, B3⟩
    rw [hk.1]
    refine ⟨by rw [← hk.1]; exact hk.2.1, fun w => main (fun u => absurd (hck.2.2.2.1.2 u) w), fun w => ?_⟩
    have hS := hck.2.2.2.1.1 w
    have hv := tV_bd (t := t) (n := n) (i := tE t n (tE t n (dI r))) (Or.inr (Or.inr hS))
    have hrv : rv (h2 24 0 5) (tV t n (tE t n (tE t n (dI r)))) := C2.tk.2.2.2.2.2 hS
    unfold rv at hrv
    refine k3_hasLevel D2.1 (by omega) hk.2.2 (fun _ _ l0 l1 => ⟨by decide, fun z => absurd z (by decide), fun _ => ?_⟩) (fun z => ⟨by decide, fun _ => main (fun _ u => by omega), fun z2 => absurd rfl z2⟩)
    have ev : h2 24 0 5 = tV t n (tE t n (tE t n (dI r))) := by omega
    refine k0_isJoined D2.2.1.j (by omega) f0 f1 l0 (by omega) (fun jt => ⟨by decide, fun z => absurd z (by decide), fun _ => k4_fail C2 hf2 (by decide) (fun h3 B F => k h3 ?_)⟩) (fun jf => ⟨by decide, fun _ => main (fun _ _ => by rw [← ev]; exact jf), fun z => absurd rfl z⟩)
    rw [ev] at jt l0 l1
    have hJ := W.2.2.1.2.2.2 f f0 f1 (tV t n (tE t n (tE t n (dI r)))) l0 (by omega) jt
    rw [if_pos hS, if_pos (by omega), if_pos jt] at base
    rw [base]
    exact ⟨(F12.tr F).g, B⟩
  · have D2 := D1.f24 F
    refine k3_hasFactor D2.1 (by decide) (fun z _ => by omega) (fun _ => ⟨by decide, fun z => absurd rfl z, fun _ => k h2 ?_⟩)
    have eb : bdJoin t n r = badE k1 p := by unfold bdJoin; rw [e]
    rw [eb]
    exact ⟨(F1.tr F).g, B⟩
end READ3
