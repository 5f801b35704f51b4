/-! the class: chance, the best join, the hardest hit -/
section OFF6
variable {h h2 : mH} {σ : Sg}
theorem m_chance (C : CG h σ) {K : Int → mH → Prop} {x1 x2 x3 x4 x5 : Int} (hx1 : mInR x1) (hx2 : mInR x2) (hx3 : mInR x3) (hx4 : mInR x4) (hx5 : mInR x5) (k : ∀ h2, CG h2 σ → FrM h h2 → K (q_chance σ x1 x2 x3 x4 x5) h2) : OkJ M6_chance [mR 25 0, mI x1, mI x2, mI x3, mI x4, mI x5] h K := by
  have P := C.1
  have B := C.2.1
  have hm := B.m40
  have hsd := P.w.1.2.2
  have no : ¬ (-1 ≤ x1 ∧ (1 ≤ x2 ∧ x2 ≤ 60) ∧ (0 ≤ x3 ∧ x3 ≤ 99999) ∧ (0 ≤ x4 ∧ x4 ≤ 20) ∧ (0 ≤ x5 ∧ x5 ≤ 2) ∧ ¬ gS σ 310 = 0) → K (-1) h := by
    intro z
    have kk := k h C (FrM.rf h)
    unfold q_chance at kk
    rw [if_neg z] at kk
    exact kk
  refine s6_chance ⟨hx1, fun z => no (by omega), fun z1 => k_within hx2 (by decide) (by decide) (fun a1 a2 => ⟨by decide, fun w => absurd w (by decide), fun _ => k_within hx3 (by decide) (by decide) (fun b1 b2 => ⟨by decide, fun w => absurd w (by decide), fun _ => k_within hx4 (by decide) (by decide) (fun c1 c2 => ⟨by decide, fun w => absurd w (by decide), fun _ => k_within hx5 (by decide) (by decide) (fun d1 d2 => ⟨by decide, fun w => absurd w (by decide), fun _ => ?_⟩) (fun z => ⟨by decide, fun _ => no (fun w => z w.2.2.2.2.1), fun w => absurd rfl w⟩)⟩) (fun z => ⟨by decide, fun _ => no (fun w => z w.2.2.2.1), fun w => absurd rfl w⟩)⟩) (fun z => ⟨by decide, fun _ => no (fun w => z w.2.2.1), fun w => absurd rfl w⟩)⟩) (fun z => ⟨by decide, fun _ => no (fun w => z w.2.1), fun w => absurd rfl w⟩)⟩
  rw [B.m]
  refine ⟨by omega, fun z => k0_copyFrom (by decide) (fun h2 Bc F => ?_), fun z => no (by omega)⟩
  have P2 := F.q.pl P
  have B2 : Bk h2 1 (gP σ) (gS σ) := Bc _ _ B
  have hv : -1 ≤ x1 ∧ (1 ≤ x2 ∧ x2 ≤ 60) ∧ (0 ≤ x3 ∧ x3 ≤ 99999) ∧ (0 ≤ x4 ∧ x4 ≤ 20) ∧ (0 ≤ x5 ∧ x5 ≤ 2) ∧ ¬ gS σ 310 = 0 := by omega
  have fin : ∀ v, mInR v → v = (if x1 = -1 then sd (gP σ) else x1) → A6_chance_90 K x1 x2 x3 x4 x5 v h2 := by
    intro v hvr ev
    refine s6_chance_90 (k0_drawClaims B2 hvr (by omega) ⟨b1, b2⟩ z (fun h3 B3 F3 => ?_))
    have G3 := F.q.tr F3.q
    refine k2_playRounds (G3.pl P) B3 (by omega) (by decide) (fun h4 m _ _ B4 F4 => ?_)
    have G4 := G3.tr F4.q
    have kk := fun h5 (G : FrQ h h5) => k h5 (C.q G) G.mm
    unfold q_chance at kk
    rw [if_pos hv, ← ev] at kk
    unfold chV at kk
    have hu := unb_bd B.wp (rn (gP σ) (-1) x4 (drw (gS σ) v x2 x3))
    refine ⟨hx5, fun z0 => ⟨hx5, fun z1 => k2_countUnbalanced (G4.pl P) B4 (fun h5 F5 => ⟨by omega, ?_⟩), fun z1 => k2_sumPaid (G4.pl P) B4 (fun h5 D F5 => ?_)⟩, fun z0 => k2_sumMisfit (G4.pl P) B4 (fun h5 F5 => ?_)⟩
    · have k3 := kk h5 (G4.tr F5.q)
      rw [if_neg z0, if_neg z1] at k3; exact k3
    · have k3 := kk h5 (G4.tr F5.q)
      rw [if_neg z0, if_pos z1] at k3; exact k3
    · have k3 := kk h5 (G4.tr F5.q)
      rw [if_pos z0] at k3; exact k3
  refine ⟨hx1, fun z2 => fin x1 hx1 (by rw [if_neg (by omega)]), fun z2 => ?_⟩
  rw [P2.1.2.2]
  exact fin _ (by omega) (by rw [if_pos (by omega)])
theorem m_misfitIf (C : CG h σ) {K : Int → mH → Prop} {f l n : Int} (h0 : 0 ≤ f) (h1 : f < nf (gP σ)) (h2 : 0 ≤ l) (h3 : l + 1 < lv (gP σ) f) (hj : jb (gS σ (304 + f)) l = false) (hn : 0 ≤ n ∧ n ≤ 50) (k : ∀ h2, FrQ h h2 → K (bjV (gP σ) (gS σ) f n l) h2) : OkJ M6_misfitIfJoined [mR 25 0, mI f, mI l, mI n] h K := by
  have P := C.1
  have B := C.2.1
  refine s6_misfitIfJoined (k0_copyFrom (by decide) (fun h4 Bc F => k0_joinToNext (Bc _ _ B) h0 h1 h2 h3 hj (fun h5 B5 F5 => ?_)))
  have G5 := F.q.tr F5.q
  refine k2_playRounds (G5.pl P) B5 (by omega) (by decide) (fun h6 m _ _ B6 F6 => ?_)
  have G6 := G5.tr F6.q
  exact k2_sumMisfit (G6.pl P) B6 (fun h7 F7 => k h7 (G6.tr F7.q))
theorem m_bestJoin (C : CG h σ) {K : Int → mH → Prop} {x1 x2 : Int} (hx : mInR x1) (hx2 : mInR x2) (k : ∀ h2, CG h2 σ → FrM h h2 → K (q_bestJoin σ x1 x2) h2) : OkI M6_bestJoin [mR 25 0, mI x1, mI x2] h K := by
  have P := C.1
  have B := C.2.1
  have hp := B.wp
  have hs := B.wf
  have h4 := P.n4
  have kk := k h C (FrM.rf h)
  unfold q_bestJoin at kk
  refine s6_bestJoin (k3_hasFactor P hx (fun a b => ⟨by decide, fun w => absurd w (by decide), fun _ => k_within hx2 (by decide) (by decide) (fun e f => ⟨by decide, fun _ => ?_, fun w => absurd w (by decide)⟩) (fun z => ⟨by decide, fun w => absurd rfl w, fun _ => ?_⟩)⟩) (fun z => ⟨by decide, fun _ => ?_, fun w => absurd rfl w⟩))
  · have hb := P.pf a b
    have hV : ∀ l, 0 ≤ l → l + 1 < lv (gP σ) x1 → 0 ≤ bjV (gP σ) (gS σ) x1 x2 l ∧ bjV (gP σ) (gS σ) x1 x2 l ≤ 95039049600000 := fun l c d => mis_bd hp (rn_wf hp (joS_wf hp hs a b c d) _ _)
    refine upI (P := fun l => ∀ h', FrQ h h' → A6_bestJoin_32 K x1 x2 (fl (bjG (gP σ) (gS σ) x1 x2) (-2, 0) l).1 (fl (bjG (gP σ) (gS σ) x1 x2) (-2, 0) l).2 l h') (n := lv (gP σ) x1 - 1) (fun h' F => ?_) (fun l h5 h6 ih h' F => ?_) 0 (by omega) (by omega) h (FrQ.rf h)
    · have k3 := k h' (C.q F) F.mm
      unfold q_bestJoin at k3
      rw [if_pos ⟨⟨a, b⟩, e, f⟩] at k3
      refine s6_bestJoin_32 ⟨by omega, ?_⟩
      rw [(F.pl P).lv a b]
      exact ⟨by omega, fun _ => k3, fun z => absurd (Int.le_refl _) z⟩
    · have hbd : ((fl (bjG (gP σ) (gS σ) x1 x2) (-2, 0) l).1 = -2 ∨ (0 ≤ (fl (bjG (gP σ) (gS σ) x1 x2) (-2, 0) l).1 ∧ (fl (bjG (gP σ) (gS σ) x1 x2) (-2, 0) l).1 ≤ 6)) ∧ (0 ≤ (fl (bjG (gP σ) (gS σ) x1 x2) (-2, 0) l).2 ∧ (fl (bjG (gP σ) (gS σ) x1 x2) (-2, 0) l).2 ≤ 95039049600000) := fl_inv (fun a : Int × Int => (a.1 = -2 ∨ (0 ≤ a.1 ∧ a.1 ≤ 6)) ∧ (0 ≤ a.2 ∧ a.2 ≤ 95039049600000)) l ⟨Or.inl rfl, by decide⟩ (fun i b0 a0 c hb0 => by
        rcases bjG_or (gP σ) (gS σ) x1 x2 i b0 with ⟨-, e0⟩ | e0
        · rw [e0]; exact ⟨Or.inr ⟨by show 0 ≤ i; omega, by show i ≤ 6; omega⟩, hV i a0 (by omega)⟩
        · rw [e0]; exact hb0) l h5 (Int.le_refl _)
      rw [fl_s _ _ h5] at ih
      revert ih hbd
      generalize fl (bjG (gP σ) (gS σ) x1 x2) (-2, 0) l = y
      intro ih hbd
      have hv := hV l h5 (by omega)
      refine s6_bestJoin_32 ⟨by omega, ?_⟩
      rw [(F.pl P).lv a b]
      refine ⟨by omega, fun z => by omega, fun _ => k0_isJoined (F.bk (c := 0) (by decide) B).j h4.2 a b h5 (by omega) (fun z => ⟨by decide, fun _ => ?_, fun w => absurd w (by decide)⟩) (fun z => ⟨by decide, fun w => absurd rfl w, fun _ => m_misfitIf (C.q F) a b h5 (by omega) z ⟨e, f⟩ (fun h3 F3 => ?_)⟩)⟩
      · have i2 := ih h' F
        rw [show bjG (gP σ) (gS σ) x1 x2 l y = y from if_neg (fun w => by rw [z] at w; cases w.1)] at i2
        exact i2
      · have i2 := ih h3 (F.tr F3)
        refine ⟨by omega, fun w => ?_, fun w => ⟨by omega, fun w2 => ?_, fun w2 => ?_⟩⟩
        · rw [show bjG (gP σ) (gS σ) x1 x2 l y = (l, bjV (gP σ) (gS σ) x1 x2 l) from if_pos ⟨z, Or.inl w⟩] at i2; exact i2
        · rw [show bjG (gP σ) (gS σ) x1 x2 l y = y from if_neg (fun w3 => w3.2.elim w (fun w4 => by omega))] at i2; exact i2
        · rw [show bjG (gP σ) (gS σ) x1 x2 l y = (l, bjV (gP σ) (gS σ) x1 x2 l) from if_pos ⟨z, Or.inr (by omega)⟩] at i2; exact i2
  · rw [if_neg (fun w => z w.2)] at kk; exact kk
  · rw [if_neg (fun w => z w.1)] at kk; exact kk
end OFF6
