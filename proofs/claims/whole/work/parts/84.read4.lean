/-! the class reads a line: a risk; its end; all lines -/
section READ4
variable {h h2 h3 : mH} {t : Int → Int} {n i j : Int} {r : Rd} {p : Pn} {nm s : Int → Int}
theorem k4_risk52F {K : mH → Prop} {k q a b c x : Int} (B : BdC n h k q) (P : Pl h 1 p nm) (kk : K h) : ∀ f, 0 ≤ f → f ≤ nf p → ∀ x, A4_readRisk_52 K a b c x f h := by
  have hn := P.n4
  refine upI (P := fun f => ∀ x, A4_readRisk_52 K a b c x f h) (n := nf p) (fun x => ?_) (fun f h5 h6 ih x => ?_)
  · refine s4_readRisk_52 ?_
    rw [P.n]
    exact ⟨by omega, fun _ => ⟨B.ne.2, fun _ => kk, fun z => absurd z B.ne.1⟩, fun z => absurd (Int.le_refl _) z⟩
  · have hl := P.pf h5 h6
    refine s4_readRisk_52 ?_
    rw [P.n, P.lv h5 h6]
    exact ⟨by omega, fun z => by omega, fun _ => ⟨by omega, k4_numF B (by decide) (by omega) (s6_slotShift (ih _))⟩⟩
theorem k4_readRisk (C : CUR h t n (dI r) j) (D : DtC h r) (W : WfD n r) (hf : h 24 0 9 = 0) {K : mH → Prop} (k : ∀ h2, PC t n j h (bdRisk t n r) h2 → K h2) : OkV M4_readRisk [mR 24 0] h K := by
  have hn := W.2.1.1.1
  have hm := W.2.2.1.1.1
  have eM : h 1 2 0 = dS r 310 := D.2.1.m
  refine s4_readRisk ?_
  rw [eM]
  refine ⟨by omega, fun z => ?_, fun z => k4_fail C hf (by decide) (fun h2 B F => k h2 ?_)⟩
  · refine k4_advance C (fun h1 j1 C1 a1 _ F1 e1 _ => k4_num C1 (e1.trans hf) (by decide) (by decide) (fun h2 j2 q2 a2 b2 C2 i2 F2 g2 => ?_) (fun h2 k2 q2 B2 F2 => ?_))
    · refine k4_num C2 g2 (by decide) (by decide) (fun h3 j3 q3 a3 b3 C3 i3 F3 g3 => ?_) (fun h3 k3 q3 B3 F3 => ?_)
      · refine k4_num C3 g3 (by decide) (by decide) (fun h4 j4 q4 a4 b4 C4 i4 F4 g4 => ?_) (fun h4 k4 q4 B4 F4 => ?_)
        · have FF := ((F1.tr F2).tr F3).tr F4
          have eb : bdRisk t n r = lvK t n (dP r) (nf (dP r)).toNat 0 (tE t n (tE t n (tE t n (tE t n (dI r))))) 0 (fun i x => Sum.inr (i, dP r, dN r, adS (dS r) (tV t n (tE t n (dI r))) (tV t n (tE t n (tE t n (dI r)))) (tV t n (tE t n (tE t n (tE t n (dI r))))) x, dW r, dB r, dL r)) := by
            unfold bdRisk
            rw [if_neg (by omega), q2, q3, q4]
          rw [eb] at k
          revert k
          generalize hY : lvK t n (dP r) (nf (dP r)).toNat 0 (tE t n (tE t n (tE t n (tE t n (dI r))))) 0 (fun i x => Sum.inr (i, dP r, dN r, adS (dS r) (tV t n (tE t n (dI r))) (tV t n (tE t n (tE t n (dI r)))) (tV t n (tE t n (tE t n (tE t n (dI r))))) x, dW r, dB r, dL r)) = Y
          intro k
          have key := upI (P := fun f => ∀ h5 i x j5, CUR h5 t n i j5 → Fr24 h h5 → h5 24 0 9 = 0 → LvX (dP r) x f → lvK t n (dP r) (nf (dP r) - f).toNat f i x (fun i x => Sum.inr (i, dP r, dN r, adS (dS r) (tV t n (tE t n (dI r))) (tV t n (tE t n (tE t n (dI r)))) (tV t n (tE t n (tE t n (tE t n (dI r))))) x, dW r, dB r, dL r)) = Y → j ≤ j5 → A4_readRisk_52 K (tV t n (tE t n (dI r))) (tV t n (tE t n (tE t n (dI r)))) (tV t n (tE t n (tE t n (tE t n (dI r))))) x f h5) (n := nf (dP r)) (fun h5 i x j5 C5 F5 g5 X5 Y5 hj => ?_) (fun f h6 h7 ih h5 i x j5 C5 F5 g5 X5 Y5 hj => ?_) 0 (by omega) (by omega) h4 _ 0 j4 C4 FF g4 (LvX.z _) (by rw [show (nf (dP r) - 0).toNat = (nf (dP r)).toNat by omega]; exact hY) (by omega)
          · exact key
          · have D5 := D.f24 F5
            refine s4_readRisk_52 ?_
            rw [D5.1.n]
            refine ⟨by omega, fun _ => ⟨by rw [g5]; decide, fun w => absurd g5 w, fun _ => ?_⟩, fun w => absurd (Int.le_refl _) w⟩
            have hx := X5.v W.2.1
            rw [show (nf (dP r) - nf (dP r)).toNat = 0 by omega] at Y5
            have Y6 : Sum.inr (i, dP r, dN r, adS (dS r) (tV t n (tE t n (dI r))) (tV t n (tE t n (tE t n (dI r)))) (tV t n (tE t n (tE t n (tE t n (dI r))))) x, dW r, dB r, dL r) = Y := Y5
            refine k0_addRiskX D5.2.1 (by omega) ⟨a2, b2⟩ ⟨a3, b3⟩ ⟨a4, b4⟩ hx (fun h6 B6 F6 o1 o6 => k h6 ?_)
            rw [← Y6]
            have W6 := wf_risk W (i := i) C5.b (by omega) ⟨a2, b2⟩ ⟨a3, b3⟩ ⟨a4, b4⟩ hx
            refine ⟨F5.g.tr (fun q b y1 y2 y3 => F6 q b y3), j5, hj, C5.fr (F6 24 0 (by omega)) (fun q a b => F6 q 0 (by omega)), DtC.mk ⟨D5.1.fr (fun q a b => F6 q 1 (by omega)), B6, fun f a b l c d => ?_, ?_⟩ (D5.tt.fr (by rw [F6 24 0 (by omega)]) (by rw [F6 24 0 (by omega)])), W6, by rw [F6 24 0 (by omega)]; exact g5⟩
            · rw [o1]
              show _ = jb (adS (dS r) _ _ _ x (304 + f)) l
              have ea : adS (dS r) (tV t n (tE t n (dI r))) (tV t n (tE t n (tE t n (dI r)))) (tV t n (tE t n (tE t n (tE t n (dI r))))) x (304 + f) = dS r (304 + f) := by
                unfold adS
                rw [if_neg (by omega), if_neg (by omega), if_neg (by omega), if_neg (by omega), if_neg (by omega)]
              rw [ea]
              exact D5.2.2.1 f a b l c d
            · rw [o6]; exact D5.2.2.2.1
          · have D5 := D.f24 F5
            have hl := W.2.1.2 f h6 h7
            refine s4_readRisk_52 ?_
            rw [D5.1.n, D5.1.lv h6 h7]
            have eK : (nf (dP r) - f).toNat = (nf (dP r) - (f + 1)).toNat + 1 := by omega
            rw [eK] at Y5
            refine ⟨by omega, fun w => by omega, fun _ => ⟨by omega, k4_num C5 g5 (by decide) (by omega) (fun h8 j8 q8 a8 b8 C8 i8 F8 g8 => s6_slotShift ?_) (fun h8 k8 q8 B8 F8 => s6_slotShift ?_)⟩⟩
            · have Y6 : lvK t n (dP r) (nf (dP r) - (f + 1)).toNat (f + 1) (tE t n i) (mOr x (mShl (tV t n i) (f * 3))) (fun i x => Sum.inr (i, dP r, dN r, adS (dS r) (tV t n (tE t n (dI r))) (tV t n (tE t n (tE t n (dI r)))) (tV t n (tE t n (tE t n (tE t n (dI r))))) x, dW r, dB r, dL r)) = Y := (q8 _).symm.trans Y5
              exact ih h8 (tE t n i) _ j8 C8 (F5.tr F8) g8 (X5.s W.2.1 ⟨h6, h7⟩ ⟨a8, b8⟩) Y6 (by omega)
            · have Y6 : badE k8 (tP t n i) = Y := (q8 _).symm.trans Y5
              have F9 := F5.tr F8
              refine k4_risk52F (q := tP t n i) (x := 0) B8 (D.f24 F9).1 (k h8 ?_) (f + 1) (by omega) (by omega) _
              rw [← Y6]
              exact ⟨F9.g, B8⟩
        · have FF := ((F1.tr F2).tr F3).tr F4
          refine k4_risk52F (x := 0) B4 (D.f24 FF).1 (k h4 ?_) 0 (by omega) (by omega) _
          have eb : bdRisk t n r = badE k4 (tP t n (tE t n (tE t n (tE t n (dI r))))) := by
            unfold bdRisk
            rw [if_neg (by omega), q2, q3, q4]
          rw [eb]
          exact ⟨FF.g, B4⟩
      · have FF := (F1.tr F2).tr F3
        refine k4_numF B3 (by decide) (by decide) (k4_risk52F (x := 0) B3 (D.f24 FF).1 (k h3 ?_) 0 (by omega) (by omega) _)
        have eb : bdRisk t n r = badE k3 (tP t n (tE t n (tE t n (dI r)))) := by
          unfold bdRisk
          rw [if_neg (by omega), q2, q3]
        rw [eb]
        exact ⟨FF.g, B3⟩
    · have FF := F1.tr F2
      refine k4_numF B2 (by decide) (by decide) (k4_numF B2 (by decide) (by decide) (k4_risk52F (x := 0) B2 (D.f24 FF).1 (k h2 ?_) 0 (by omega) (by omega) _))
      have eb : bdRisk t n r = badE k2 (tP t n (tE t n (dI r))) := by
        unfold bdRisk
        rw [if_neg (by omega), q2]
      rw [eb]
      exact ⟨FF.g, B2⟩
  · have eb : bdRisk t n r = badE 2 (tP t n (dI r)) := by unfold bdRisk; rw [if_pos (by omega)]
    rw [eb]
    exact ⟨F.g, B⟩
theorem k4_takeStop {j0 : Int} {x : Er} (P : PC t n j0 h x h2) {K : mH → Prop} (k : ∀ h3, PC t n (j0 + 1) h (match x with | Sum.inl e => Sum.inl e | Sum.inr r => stF t n r) h3 → K h3) : OkV M4_takeStop [mR 24 0] h2 K := by
  obtain ⟨F, P⟩ := P
  cases x with
  | inl e =>
    have B : BdC n h2 e.1 e.2 := P
    have kk : K h2 := k h2 ⟨F, B⟩
    exact s4_takeStop ⟨B.2.2.2.2.1, fun _ => ⟨B.ne.2, fun _ => kk, fun z => absurd z B.ne.1⟩, fun _ => k4_failF B ⟨B.ne.2, fun _ => kk, fun z => absurd z B.ne.1⟩⟩
  | inr r =>
    obtain ⟨j, hj, C, D, W, hf⟩ : ∃ j, j0 ≤ j ∧ CUR h2 t n (dI r) j ∧ DtC h2 r ∧ WfD n r ∧ h2 24 0 9 = 0 := P
    have hk := C.kR
    have hck := ck_eq (k := 0) (tS_bd (t := t) (n := n) (i := dI r))
    refine s4_takeStop ?_
    rw [hk.1]
    refine ⟨by rw [← hk.1]; exact hk.2.1, fun z => ⟨by rw [hf]; decide, fun w => absurd hf w, fun _ => ?_⟩, fun z => ?_⟩
    · have hS := hck.2.2.2.2.1 z
      refine k4_advance C (fun h3 j3 C3 a3 b3 F3 e3 _ => k h3 ?_)
      have e : stF t n r = Sum.inr (tE t n (dI r), dP r, dN r, dS r, dW r, dB r, dL r + 1) := if_pos hS
      show PC t n (j0 + 1) h (stF t n r) h3
      rw [e]
      have := b3 (by omega)
      have D3 : DtC h3 r := D.f24 F3
      exact ⟨F.tr F3.g, j3, by omega, C3, D3, wf_at W C3.b, e3.trans hf⟩
    · have hS : ¬ tS t n (dI r) = 3 := fun w => z (hck.2.2.2.2.2 w)
      refine k4_fail C hf (by decide) (fun h3 B F3 => ⟨B.ne.2, fun _ => k h3 ?_, fun w => absurd w B.ne.1⟩)
      have e : stF t n r = badE 1 (tP t n (dI r)) := if_neg hS
      show PC t n (j0 + 1) h (stF t n r) h3
      rw [e]
      exact ⟨F.tr F3.g, B⟩
theorem k4_readLine (C : CUR h t n (dI r) j) (D : DtC h r) (W : WfD n r) (hf : h 24 0 9 = 0) {K : mH → Prop} (k : ∀ h2, PC t n (j + 1) h (liF t n r) h2 → K h2) : OkV M4_readLine [mR 24 0] h K := by
  have hk := C.kR
  have hck := ck_eq (k := 0) (tS_bd (t := t) (n := n) (i := dI r))
  have go : ∀ h2, PC t n j h (bdF t n r) h2 → OkV M4_takeStop [mR 24 0] h2 (fun h3 => K h3) := fun h2 P => k4_takeStop P (fun h3 P3 => k h3 P3)
  refine s4_readLine ?_
  rw [hk.1]
  refine ⟨by rw [← hk.1]; exact hk.2.1, fun z => ?_, fun z => k4_fail C hf (by decide) (fun h2 B F => k h2 ?_)⟩
  · have hS := hck.2.1.1 z
    have hv := tV_bd (t := t) (n := n) (i := dI r) (Or.inl hS)
    have hv9 := hv.2.2 hS
    have e5 : h 24 0 5 = cw (tV t n (dI r)) := C.tk.2.2.2.1 hS
    have eb : bdF t n r = (if tV t n (dI r) ≤ 5 then bdSet t n r (tV t n (dI r)) else if tV t n (dI r) = 6 then bdFac t n r else if tV t n (dI r) = 7 then bdBand t n r else if tV t n (dI r) = 8 then bdJoin t n r else bdRisk t n r) := by unfold bdF; rw [if_pos hS]
    rw [e5]
    rw [eb] at go
    revert go hv9
    have hv0 := hv.1
    revert hv0
    generalize tV t n (dI r) = w
    intro w0 go w9
    by_cases c : w ≤ 5
    · have hc := cw_in ⟨w0, c⟩
      rw [if_pos c] at go
      exact ⟨by omega, fun y => by omega, fun y => by omega, fun y => by omega, fun y => by omega, fun _ => k4_readSetting C D W hf ⟨w0, c⟩ go⟩
    · have : w = 6 ∨ w = 7 ∨ w = 8 ∨ w = 9 := by omega
      rcases this with rfl | rfl | rfl | rfl
      · exact ⟨by decide, fun _ => k4_readFactor C D W hf go, fun y => absurd y (by decide), fun y => absurd y (by decide), fun y => absurd y (by decide), fun y => absurd y (by decide)⟩
      · exact ⟨by decide, fun y => absurd y (by decide), fun _ => k4_readBand C D W hf go, fun y => absurd y (by decide), fun y => absurd y (by decide), fun y => absurd y (by decide)⟩
      · exact ⟨by decide, fun y => absurd y (by decide), fun y => absurd y (by decide), fun _ => k4_readJoin C D W hf go, fun y => absurd y (by decide), fun y => absurd y (by decide)⟩
      · exact ⟨by decide, fun y => absurd y (by decide), fun y => absurd y (by decide), fun y => absurd y (by decide), fun _ => k4_readRisk C D W hf go, fun y => absurd y (by decide)⟩
  · have hS : ¬ tS t n (dI r) = 0 := fun w => z (hck.2.1.2 w)
    have e : liF t n r = badE 1 (tP t n (dI r)) := by
      have e2 : bdF t n r = badE 1 (tP t n (dI r)) := if_neg hS
      unfold liF
      rw [e2]
      rfl
    rw [e]
    exact ⟨F.g, B⟩
/-- a line more -/
theorem nuK_L {lo hi L : Int} {ok : Int → Er} (hk : ∀ v r2, ok v = Sum.inr r2 → dL r2 = L) {r2 : Rd} (e : nuK t n i lo hi ok = Sum.inr r2) : dL r2 = L := by
  unfold nuK at e
  split at e
  · split at e
    · exact hk _ _ e
    · cases e
  · cases e
theorem lvK_L {L : Int} {ok : Int → Int → Er} (hk : ∀ i x r2, ok i x = Sum.inr r2 → dL r2 = L) : ∀ (m : Nat) (f i x : Int) (r2 : Rd), lvK t n p m f i x ok = Sum.inr r2 → dL r2 = L
  | 0, _, i, x, r2, e => hk i x r2 e
  | m + 1, f, i, x, r2, e => nuK_L (fun v r3 e3 => lvK_L hk m _ _ _ r3 e3) e
theorem faK_L {L : Int} {ok : Int → Er} (hk : ∀ v r2, ok v = Sum.inr r2 → dL r2 = L) {r2 : Rd} (e : faK t n r ok = Sum.inr r2) : dL r2 = L := by
  unfold faK at e
  split at e
  · split at e
    · cases e
    · exact hk _ _ e
  · cases e
theorem bd_L {r2 : Rd} (e : bdF t n r = Sum.inr r2) : dL r2 = dL r := by
  unfold bdF at e
  split at e
  · split at e
    · unfold bdSet at e
      split at e
      · refine nuK_L (fun v r3 e3 => ?_) e
        split at e3
        · refine nuK_L (fun v r4 e4 => ?_) e3
          injection e4 with e4
          rw [← e4]; rfl
        · injection e3 with e3
          rw [← e3]; rfl
      · cases e
    · split at e
      · unfold bdFac at e
        split at e
        · cases e
        · split at e
          · cases e
          · split at e
            · split at e
              · refine nuK_L (fun v r4 e4 => ?_) e
                injection e4 with e4
                rw [← e4]; rfl
              · cases e
            · cases e
      · split at e
        · unfold bdBand at e
          refine faK_L (fun f r3 e3 => ?_) e
          split at e3
          · refine nuK_L (fun v r4 e4 => nuK_L (fun v r5 e5 => ?_) e4) e3
            injection e5 with e5
            rw [← e5]; rfl
          · cases e3
        · split at e
          · unfold bdJoin at e
            refine faK_L (fun f r3 e3 => ?_) e
            split at e3
            · split at e3
              · split at e3
                · cases e3
                · injection e3 with e3
                  rw [← e3]; rfl
              · cases e3
            · cases e3
          · unfold bdRisk at e
            split at e
            · cases e
            · refine nuK_L (fun v r3 e3 => nuK_L (fun v r4 e4 => nuK_L (fun v r5 e5 => lvK_L (fun i x r6 e6 => ?_) _ _ _ _ _ e5) e4) e3) e
              injection e6 with e6
              rw [← e6]; rfl
  · cases e
theorem li_L {r2 : Rd} (e : liF t n r = Sum.inr r2) : dL r2 = dL r + 1 := by
  unfold liF at e
  cases hb : bdF t n r with
  | inl x => rw [hb] at e; cases e
  | inr r3 =>
    rw [hb] at e
    have e2 : stF t n r3 = Sum.inr r2 := e
    unfold stF at e2
    split at e2
    · injection e2 with e2
      rw [← e2, ← bd_L hb]
      rfl
    · cases e2
theorem k4_lines {K : Int → mH → Prop} {x2 M : Int} (hM : h 20 0 3 = M + 1) (hM2 : 0 ≤ M ∧ M ≤ 900) : ∀ (m : Nat) (h2 : mH) (y : Er) (x3 : Int), (m : Int) ≤ 1000 → (∀ h3 v, PC t n 0 h (itF t n m y) h3 → (∀ r, itF t n m y = Sum.inr r → v = dL r) → K v h3) → PC t n (1000 - m) h y h2 → (∀ r, y = Sum.inr r → x3 = dL r) → A4_readText_57 K x2 x3 (1000 - m) h2 := by
  intro m
  induction m with
  | zero =>
    intro h2 y x3 hm k P hx
    obtain ⟨F, P⟩ := P
    have e20 : h2 20 0 3 = M + 1 := by rw [F 20 0 (by decide) (by omega) (by omega)]; exact hM
    cases y with
    | inl e =>
      have B : BdC n h2 e.1 e.2 := P
      have kk : K x3 h2 := k h2 x3 ⟨F, B⟩ (fun r z => by cases z)
      refine s4_readText_57 ?_
      rw [e20]
      exact ⟨by omega, fun _ => kk, fun z => by omega⟩
    | inr r =>
      obtain ⟨j, hj, C, P⟩ : ∃ j, 1000 - ((0 : Nat) : Int) ≤ j ∧ CUR h2 t n (dI r) j ∧ DtC h2 r ∧ WfD n r ∧ h2 24 0 9 = 0 := P
      obtain ⟨q, hq, -⟩ := C
      omega
  | succ m ih =>
    intro h2 y x3 hm k P hx
    obtain ⟨F, P⟩ := P
    have e20 : h2 20 0 3 = M + 1 := by rw [F 20 0 (by decide) (by omega) (by omega)]; exact hM
    cases y with
    | inl e =>
      have B : BdC n h2 e.1 e.2 := P
      rw [it_bad] at k
      have kk : K x3 h2 := k h2 x3 ⟨F, B⟩ (fun r z => by cases z)
      refine s4_readText_57 ?_
      rw [e20]
      exact ⟨by omega, fun _ => kk, fun z => ⟨B.2.2.2.2.1, fun _ => kk, fun _ => ⟨B.ne.2, fun _ => kk, fun w => absurd w B.ne.1⟩⟩⟩
    | inr r =>
      obtain ⟨j, hj, C, D, W, hf⟩ : ∃ j, 1000 - ((m + 1 : Nat) : Int) ≤ j ∧ CUR h2 t n (dI r) j ∧ DtC h2 r ∧ WfD n r ∧ h2 24 0 9 = 0 := P
      have hk := C.kR
      have hck := ck_eq (k := 0) (tS_bd (t := t) (n := n) (i := dI r))
      have hjM : j ≤ M := by
        obtain ⟨q, hq, -, e3, -⟩ := C
        omega
      refine s4_readText_57 ?_
      rw [e20, hk.1]
      refine ⟨by omega, fun z => by omega, fun _ => ⟨by rw [← hk.1]; exact hk.2.1, fun z => ?_, fun z => ⟨by rw [hf]; decide, fun w => absurd hf w, fun _ => ?_⟩⟩⟩
      · have hS := hck.1.1 z
        rw [it_end _ hS] at k
        exact k h2 x3 ⟨F, j, by omega, C, D, W, hf⟩ hx
      · have hS : tS t n (dI r) ≠ 4 := fun w => z (hck.1.2 w)
        rw [it_go m hS] at k
        refine k4_readLine C D W hf (fun h3 P3 => ?_)
        rw [show 1000 - ((m + 1 : Nat) : Int) + 1 = 1000 - (m : Int) by omega]
        refine ih h3 _ _ (by omega) k ?_ (fun r2 er => ?_)
        · obtain ⟨F3, P3⟩ := P3
          refine ⟨F.tr F3, ?_⟩
          revert P3
          cases liF t n r with
          | inl e => exact fun P3 => P3
          | inr r2 =>
            intro P3
            obtain ⟨j3, q0, P4⟩ : ∃ j3, j + 1 ≤ j3 ∧ CUR h3 t n (dI r2) j3 ∧ DtC h3 r2 ∧ WfD n r2 ∧ h3 24 0 9 = 0 := P3
            exact ⟨j3, by omega, P4⟩
        · rw [hx r rfl]
          exact (li_L er).symm
end READ4
