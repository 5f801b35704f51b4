/-! the reference's text -/
def q_text (σ : Sg) (x : Int) : Int := if x < 0 ∨ (gT σ).1 < x then -2 else match txF (gT σ).2 x with
  | Sum.inl _ => -1
  | Sum.inr r => dL r
def s_text (σ : Sg) (x : Int) : Sg := if x < 0 ∨ (gT σ).1 < x then σ else match txF (gT σ).2 x with
  | Sum.inl e => (gP σ, gN σ, gS σ, gI σ, gU σ, (0, (gT σ).2), e)
  | Sum.inr r => (dP r, dN r, bgS (dP r) (dS r), (0, (gI σ).2), (0, (gU σ).2), (0, (gT σ).2), (0, -1))
section RTEXT3
variable {h h2 h3 : mH} {σ : Sg}
theorem RG.frR (R : RG h σ) (F : FrR h h2) : RG h2 σ := by
  obtain ⟨⟨⟨a1, a2, a3, a4⟩, a5, a6⟩, r2, ⟨i1, i2, i3⟩, ⟨u1, u2, u3⟩, ⟨t1, t2, t3⟩, ⟨f1, f2, f3⟩⟩ := R
  have hn := a6.1.1.1
  have c30 : ∀ j, j < 12 ∨ 19 < j → h2 30 0 j = h 30 0 j := fun j hj => F 30 0 j (fun z => by have := z.2; omega)
  have c32 : ∀ j, j < 9 → h2 32 0 j = h 32 0 j := fun j hj => F 32 0 j (fun z => by have := z.2; omega)
  have cf : ∀ q : Nat, 34 ≤ q → q ≤ 39 → ∀ j, j < 4 → h2 q 0 j = h q 0 j := fun q a b j hj => F q 0 j (fun z => by have := z.2; omega)
  have co : ∀ q : Nat, q = 31 ∨ q = 41 ∨ q = 43 ∨ q = 44 → h2 q 0 = h q 0 := fun q hq => funext (fun j => F q 0 j (fun z => by have := z.2; omega))
  refine ⟨⟨⟨?_, ?_, ?_, fun f a b => ?_⟩, ?_, a6⟩, fun f a b => ?_, ⟨?_, i2, fun z => ?_⟩, ⟨?_, u2, fun k a b => ?_⟩, ⟨?_, t2, fun j a b => ?_⟩, ⟨?_, ?_, f3⟩⟩
  · rw [c32 7 (by decide)]; exact a1
  · rw [c32 1 (by decide)]; exact a2
  · rw [c32 3 (by decide)]; exact a3
  · rw [cf 35 (by decide) (by decide) f (by omega), cf 36 (by decide) (by decide) f (by omega), cf 37 (by decide) (by decide) f (by omega)]; exact a4 f a b
  · rw [co 41 (by decide)]; exact a5
  · rw [cf 34 (by decide) (by decide) f (by omega)]; exact r2 f a b
  · rw [c30 27 (by decide)]; exact i1
  · rw [co 43 (by decide)]; exact i3 z
  · rw [c30 26 (by decide)]; exact u1
  · rw [co 44 (by decide)]; exact u3 k a b
  · rw [c30 2 (by decide)]; exact t1
  · rw [co 31 (by decide)]; exact t3 j a b
  · rw [c30 20 (by decide)]; exact f1
  · rw [c30 21 (by decide)]; exact f2
theorem FrR.c (F : FrR h h2) : FrC h h2 := fun q hq i => funext (fun k => F q i k (fun z => by have := z.2; omega))
theorem frC_set {q : Nat} {i k v : Int} (hq : 30 ≤ q ∧ q ≤ 45) : FrC h (mSet h q i k v) := fun r hr j => by rw [mSet_o (by omega)]
theorem r_textB {K : Int → mH → Prop} {x1 : Int} {e : Int × Int} {h1 : mH} (R1 : RG h1 σ) (FC : FrC h h1) (hx9 : x1 ≤ 900) (k : (∀ h2, RG h2 (gP σ, gN σ, gS σ, gI σ, gU σ, (0, (gT σ).2), e) → FrC h h2 → K (-1) h2)) (B : Bd x1 h1 e.1 e.2) : (mInR (mSet (mSet h1 30 0 2 0) 30 0 20 (mSet h1 30 0 2 0 30 0 18) 30 0 18)) ∧ (¬ (mSet (mSet h1 30 0 2 0) 30 0 20 (mSet h1 30 0 2 0 30 0 18) 30 0 18) = 0 → (A7_text_54 K x1 (mSet (mSet h1 30 0 2 0) 30 0 20 (mSet h1 30 0 2 0 30 0 18) 30 0 19) (mSet (mSet h1 30 0 2 0) 30 0 20 (mSet h1 30 0 2 0 30 0 18)))) ∧ ((mSet (mSet h1 30 0 2 0) 30 0 20 (mSet h1 30 0 2 0 30 0 18) 30 0 18) = 0 → (A7_text_54 K x1 ((-1)) (mSet (mSet h1 30 0 2 0) 30 0 20 (mSet h1 30 0 2 0 30 0 18)))) := by
  have hb := B.2.2
  have e18 : mSet (mSet h1 30 0 2 0) 30 0 20 (mSet h1 30 0 2 0 30 0 18) 30 0 18 = e.1 := by rw [mSet_kk (by decide), mSet_kk (by decide)]; exact B.1
  have e19 : mSet (mSet h1 30 0 2 0) 30 0 20 (mSet h1 30 0 2 0 30 0 18) 30 0 19 = e.2 := by rw [mSet_kk (by decide), mSet_kk (by decide)]; exact B.2.1
  rw [e18, e19]
  refine ⟨by omega, fun _ => ?_, fun w => by omega⟩
  refine s7_text_54 ?_
  rintro _ rfl
  have e18b : mSet (mSet (mSet h1 30 0 2 0) 30 0 20 (mSet h1 30 0 2 0 30 0 18)) 30 0 21 e.2 30 0 18 = e.1 := by rw [mSet_kk (by decide)]; exact e18
  rw [e18b]
  refine ⟨by omega, fun w => by omega, fun _ => k _ ?_ (((FC.tr (frC_set (by decide))).tr (frC_set (by decide))).tr (frC_set (by decide)))⟩
  have e18c : mSet h1 30 0 2 0 30 0 18 = e.1 := by rw [mSet_kk (by decide)]; exact B.1
  rw [e18c]
  obtain ⟨⟨⟨a1, a2, a3, a4⟩, a5, a6⟩, r2, ⟨i1, i2, i3⟩, ⟨u1, u2, u3⟩, ⟨t1, t2, t3⟩, ⟨f1, f2, f3⟩⟩ := R1
  refine ⟨⟨⟨?_, ?_, ?_, fun f a b => ?_⟩, ?_, a6⟩, fun f a b => ?_, ⟨?_, i2, fun z => ?_⟩, ⟨?_, u2, fun k a b => ?_⟩, ⟨?_, show (0 : Int) ≤ 0 ∧ (0 : Int) ≤ 900 by decide, fun j a b => ?_⟩, ⟨?_, ?_, ?_, ?_⟩⟩
  · rw [mSet_o (by decide), mSet_o (by decide), mSet_o (by decide)]; exact a1
  · rw [mSet_o (by decide), mSet_o (by decide), mSet_o (by decide)]; exact a2
  · rw [mSet_o (by decide), mSet_o (by decide), mSet_o (by decide)]; exact a3
  · rw [mSet_o (by decide), mSet_o (by decide), mSet_o (by decide), mSet_o (by decide), mSet_o (by decide), mSet_o (by decide), mSet_o (by decide), mSet_o (by decide), mSet_o (by decide)]; exact a4 f a b
  · rw [mSet_o (by decide), mSet_o (by decide), mSet_o (by decide)]; exact a5
  · rw [mSet_o (by decide), mSet_o (by decide), mSet_o (by decide)]; exact r2 f a b
  · rw [mSet_kk (by decide), mSet_kk (by decide), mSet_kk (by decide)]; exact i1
  · rw [mSet_o (by decide), mSet_o (by decide), mSet_o (by decide)]; exact i3 z
  · rw [mSet_kk (by decide), mSet_kk (by decide), mSet_kk (by decide)]; exact u1
  · rw [mSet_o (by decide), mSet_o (by decide), mSet_o (by decide)]; exact u3 k a b
  · rw [mSet_kk (by decide), mSet_kk (by decide), mSet_e]; rfl
  · have : j < 0 := b
    omega
  · rw [mSet_kk (by decide), mSet_e]; rfl
  · rw [mSet_e]; rfl
  · show mInR e.1
    omega
  · show mInR e.2
    omega
theorem r_textG {K : Int → mH → Prop} {x1 : Int} {r : Rd} {h1 : mH} (FC : FrC h h1) (k : (∀ h2, RG h2 (dP r, dN r, bgS (dP r) (dS r), (0, (gI σ).2), (0, (gU σ).2), (0, (gT σ).2), (0, -1)) → FrC h h2 → K (dL r) h2)) (P : 0 ≤ dI r ∧ RDt h1 (gT σ).2 x1 (dI r) ∧ RDd h1 r ∧ WfD x1 r ∧ h1 30 0 12 = dL r) : (mInR (mSet (mSet h1 30 0 2 0) 30 0 20 (mSet h1 30 0 2 0 30 0 18) 30 0 18)) ∧ (¬ (mSet (mSet h1 30 0 2 0) 30 0 20 (mSet h1 30 0 2 0 30 0 18) 30 0 18) = 0 → (A7_text_54 K x1 (mSet (mSet h1 30 0 2 0) 30 0 20 (mSet h1 30 0 2 0 30 0 18) 30 0 19) (mSet (mSet h1 30 0 2 0) 30 0 20 (mSet h1 30 0 2 0 30 0 18)))) ∧ ((mSet (mSet h1 30 0 2 0) 30 0 20 (mSet h1 30 0 2 0 30 0 18) 30 0 18) = 0 → (A7_text_54 K x1 ((-1)) (mSet (mSet h1 30 0 2 0) 30 0 20 (mSet h1 30 0 2 0 30 0 18)))) := by
  obtain ⟨-, RT, D, W, L⟩ : 0 ≤ dI r ∧ RDt h1 (gT σ).2 x1 (dI r) ∧ RDd h1 r ∧ WfD x1 r ∧ h1 30 0 12 = dL r := P
  have e18 : mSet (mSet h1 30 0 2 0) 30 0 20 (mSet h1 30 0 2 0 30 0 18) 30 0 18 = 0 := by rw [mSet_kk (by decide), mSet_kk (by decide)]; exact RT.2.2.2.2.2.2.2
  rw [e18]
  refine ⟨by decide, fun w => absurd rfl w, fun _ => ?_⟩
  refine s7_text_54 ?_
  rintro _ rfl
  have e18b : mSet (mSet (mSet h1 30 0 2 0) 30 0 20 (mSet h1 30 0 2 0 30 0 18)) 30 0 21 (-1) 30 0 18 = 0 := by rw [mSet_kk (by decide)]; exact e18
  rw [e18b]
  refine ⟨by decide, fun _ => ?_, fun w => absurd rfl w⟩
  have e18c : mSet h1 30 0 2 0 30 0 18 = 0 := by rw [mSet_kk (by decide)]; exact RT.2.2.2.2.2.2.2
  rw [e18c]
  have FD : FrC h (mSet (mSet (mSet h1 30 0 2 0) 30 0 20 0) 30 0 21 (-1)) := ((FC.tr (frC_set (by decide))).tr (frC_set (by decide))).tr (frC_set (by decide))
  have ho : ∀ q : Nat, q ≠ 30 → mSet (mSet (mSet h1 30 0 2 0) 30 0 20 0) 30 0 21 (-1) q = h1 q := fun q hq => by rw [mSet_o hq, mSet_o hq, mSet_o hq]
  have g2 : mSet (mSet (mSet h1 30 0 2 0) 30 0 20 0) 30 0 21 (-1) 30 0 2 = 0 := by rw [mSet_kk (by decide), mSet_kk (by decide), mSet_e]
  have g20 : mSet (mSet (mSet h1 30 0 2 0) 30 0 20 0) 30 0 21 (-1) 30 0 20 = 0 := by rw [mSet_kk (by decide), mSet_e]
  have g21 : mSet (mSet (mSet h1 30 0 2 0) 30 0 20 0) 30 0 21 (-1) 30 0 21 = -1 := mSet_e
  have g12 : mSet (mSet (mSet h1 30 0 2 0) 30 0 20 0) 30 0 21 (-1) 30 0 12 = dL r := by rw [mSet_kk (by decide), mSet_kk (by decide), mSet_kk (by decide)]; exact L
  revert FD ho g2 g20 g21 g12
  generalize mSet (mSet (mSet h1 30 0 2 0) 30 0 20 0) 30 0 21 (-1) = H
  intro FD ho g2 g20 g21 g12
  obtain ⟨⟨n0, n1, n2, n3, n4, n5, n6, n7, n8⟩, d2, d3, d4⟩ := D
  refine c7_takeText (fun h4 q1 q2 q3 => ?_)
  have m32 : ∀ j, 0 ≤ j → j < 9 → h4 32 0 j = h1 32 0 (9 + j) := fun j a b => by rw [q2 j a b, ho 32 (by decide)]
  have hn := W.2.1.1.1
  have mf : ∀ q : Nat, q = 34 ∨ q = 35 ∨ q = 36 ∨ q = 37 ∨ q = 39 → ∀ f, 0 ≤ f → f < nf (dP r) → h4 q 0 f = h1 q 0 (4 + f) := fun q hq f a b => by rw [q3 q hq f a (by omega), ho q (by omega)]
  refine c7_begins W.2.1 W.2.2.1 ((m32 0 (by decide) (by decide)).trans n0) ((m32 2 (by decide) (by decide)).trans n2) ((m32 4 (by decide) (by decide)).trans n4) ((m32 5 (by decide) (by decide)).trans n5) ((m32 6 (by decide) (by decide)).trans n6) ((m32 7 (by decide) (by decide)).trans n7) ((m32 8 (by decide) (by decide)).trans n8) (fun f a b => ⟨(mf 35 (by omega) f a b).trans (d3 f a b).2.1, (mf 39 (by omega) f a b).trans (d3 f a b).2.2.2.2.2⟩) (fun j a b => ?_) ?_
  · rw [q1 40 0 (by decide), ho 40 (by decide)]; exact d4 j a b
  · rintro _ rfl _ rfl
    have x30 : ∀ j, j ≠ 26 → j ≠ 27 → mSet (mSet (rs h4 41 0 (bgS (dP r) (dS r))) 30 0 26 0) 30 0 27 0 30 0 j = H 30 0 j := fun j a b => by rw [mSet_kk b, mSet_kk a, rs_r (by decide), q1 30 0 (by decide)]
    have xo : ∀ q : Nat, q ≠ 30 → q ≠ 41 → mSet (mSet (rs h4 41 0 (bgS (dP r) (dS r))) 30 0 26 0) 30 0 27 0 q 0 = h4 q 0 := fun q a b => by rw [mSet_o a, mSet_o a, rs_r b]
    rw [x30 12 (by decide) (by decide), g12]
    refine k _ ?_ (FD.tr (fun q hq i => ?_))
    · have hbg := bgS_wf W.2.1 W.2.2.1 W.2.2.2.2.1
      refine ⟨⟨⟨?_, ?_, ?_, fun f a b => ?_⟩, ?_, W.2.1, hbg⟩, fun f a b => ⟨?_, W.2.2.2.1 f a b⟩, ⟨mSet_e, Or.inl rfl, fun z => by cases z⟩, ⟨?_, show (0 : Int) ≤ 0 ∧ (0 : Int) ≤ 20 by decide, fun k a b => ?_⟩, ⟨?_, show (0 : Int) ≤ 0 ∧ (0 : Int) ≤ 900 by decide, fun j a b => ?_⟩, ⟨?_, ?_, by show mInR 0; decide, by show mInR (-1); decide⟩⟩
      · rw [xo 32 (by decide) (by decide)]; exact (m32 7 (by decide) (by decide)).trans n7
      · rw [xo 32 (by decide) (by decide)]; exact (m32 1 (by decide) (by decide)).trans n1
      · rw [xo 32 (by decide) (by decide)]; exact (m32 3 (by decide) (by decide)).trans n3
      · rw [xo 35 (by decide) (by decide), xo 36 (by decide) (by decide), xo 37 (by decide) (by decide)]
        exact ⟨(mf 35 (by omega) f a b).trans (d3 f a b).2.1, (mf 36 (by omega) f a b).trans (d3 f a b).2.2.1, (mf 37 (by omega) f a b).trans (d3 f a b).2.2.2.1⟩
      · rw [mSet_o (by decide), mSet_o (by decide), rs_same]; rfl
      · rw [xo 34 (by decide) (by decide)]; exact (mf 34 (by omega) f a b).trans (d3 f a b).1
      · rw [mSet_kk (by decide), mSet_e]; rfl
      · have : k < 0 := b
        omega
      · rw [x30 2 (by decide) (by decide)]; exact g2
      · have : j < 0 := b
        omega
      · rw [x30 20 (by decide) (by decide)]; exact g20
      · rw [x30 21 (by decide) (by decide)]; exact g21
    · rw [mSet_o (by omega), mSet_o (by omega), rs_r (by omega)]
      exact q1 q i (by omega)
theorem r_text (R : RG h σ) {K : Int → mH → Prop} {x1 : Int} (hx : mInR x1) (k : ∀ h2, RG h2 (s_text σ x1) → FrC h h2 → K (q_text σ x1) h2) : OkI M7_text [mR 30 0, mI x1] h K := by
  have R0 : RG (mSet h 30 0 0 0) σ := by rw [mSet_rs]; exact RS.th R 0
  have F0 : FrC h (mSet h 30 0 0 0) := frC_set (by decide)
  refine s7_text ?_
  rintro _ rfl
  revert R0 F0
  generalize mSet h 30 0 0 0 = h0
  intro R0 F0
  have hT := R0.2.2.2.2.1
  have et : h0 30 0 2 = (gT σ).1 := hT.1
  have hno : x1 < 0 ∨ (gT σ).1 < x1 → K (-2) h0 := by
    intro z
    have := k h0
    unfold s_text q_text at this
    rw [if_pos z, if_pos z] at this
    exact this R0 F0
  have ht2 : 0 ≤ (gT σ).1 ∧ (gT σ).1 ≤ 900 := hT.2.1
  refine ⟨hx, fun z => hno (Or.inl z), fun z => ?_⟩
  rw [et]
  refine ⟨by omega, fun z2 => ?_, fun z2 => hno (Or.inr (by omega))⟩
  have zz : ¬ (x1 < 0 ∨ (gT σ).1 < x1) := by omega
  unfold s_text q_text at k
  rw [if_neg zz, if_neg zz] at k
  have T : TR h0 (gT σ).2 x1 := ⟨⟨by omega, fun j a b => (hT.2.2 j a (by omega)).2⟩, fun j a b => (hT.2.2 j a (by omega)).1⟩
  refine c7_readText T (fun h1 P => ?_)
  revert k P
  generalize txF (gT σ).2 x1 = y
  intro k P
  obtain ⟨F1, P⟩ := P
  have R1 := R0.frR F1
  have FC := F0.tr F1.c
  rintro _ rfl _ rfl
  cases y with
  | inl e => exact r_textB R1 FC (by omega) k P
  | inr r => exact r_textG FC k P
end RTEXT3
