/-! the reference reads a text -/
section RTEXT
variable {h h2 h3 : mH} {t : Int → Int} {n i : Int} {r : Rd}
theorem RDt.l12 (R : RDt h t n i) {v : Int} : RDt (mSet h 30 0 12 v) t n i := by
  obtain ⟨⟨a, b⟩, r1, r2, r3, r4, r5, r6, r7⟩ := R
  refine ⟨⟨a, fun j c d => by rw [mSet_o (by decide)]; exact b j c d⟩, ?_, r2, ?_, ?_, ?_, fun z => ?_, ?_⟩
  · rw [mSet_kk (by decide)]; exact r1
  · rw [mSet_kk (by decide)]; exact r3
  · rw [mSet_kk (by decide)]; exact r4
  · rw [mSet_kk (by decide)]; exact r5
  · rw [mSet_kk (by decide)]; exact r6 z
  · rw [mSet_kk (by decide)]; exact r7
theorem Bd.l12 {k p v : Int} (B : Bd n h k p) : Bd n (mSet h 30 0 12 v) k p := by
  unfold Bd
  rw [mSet_kk (by decide), mSet_kk (by decide)]
  exact B
theorem c7_line158 {i0 : Int} {x : Er} (P : PR t n i0 h x h2) {K : mH → Prop} (k : ∀ h3, PR t n (i0 + 1) h (match x with | Sum.inl e => Sum.inl e | Sum.inr r => stF t n r) h3 → K h3) : A7_readLine_158 K h2 := by
  obtain ⟨F, P⟩ := P
  cases x with
  | inl e =>
    have B : Bd n h2 e.1 e.2 := P
    refine s7_readLine_158 ⟨B.ne.2, fun _ => f7_goOn B ?_, fun z => absurd z B.ne.1⟩
    rintro _ rfl
    exact k _ ⟨F.tr (FrR.set ⟨rfl, by omega⟩), B.l12⟩
  | inr r =>
    obtain ⟨p0, R, D, W, L⟩ : i0 ≤ dI r ∧ RDt h2 t n (dI r) ∧ RDd h2 r ∧ WfD n r ∧ h2 30 0 12 = dL r := P
    have e18 := R.2.2.2.2.2.2.2
    have e16 := R.2.2.2.2.2.1
    have hsb := tS_bd (t := t) (n := n) (i := dI r)
    refine s7_readLine_158 ⟨by rw [e18]; decide, fun z => absurd e18 z, fun _ => ?_⟩
    rw [e16]
    refine ⟨by omega, fun z => c7_goOn R (fun h3 R3 F3 => ?_), fun z => c7_bad R (by decide) (fun h3 B F3 => f7_goOn B ?_)⟩
    · rintro _ rfl
      refine k _ ?_
      have e : stF t n r = Sum.inr (tE t n (dI r), dP r, dN r, dS r, dW r, dB r, dL r + 1) := if_pos z
      show PR t n (i0 + 1) h (stF t n r) _
      rw [e]
      have hb := tE_bd (t := t) R.2.2.1.2
      have hb2 := tP_bd (t := t) R.2.2.1.2
      refine ⟨(F.tr F3.fr).tr (FrR.set ⟨rfl, by omega⟩), ?_, R3.l12, ?_, wf_at W R.eb, ?_⟩
      · show i0 + 1 ≤ tE t n (dI r)
        have := hb.2.2 (by omega)
        omega
      · have D3 : RDd h3 (tE t n (dI r), dP r, dN r, dS r, dW r, dB r, dL r + 1) := D.f30 F3
        exact D3.fr (fun q a b => by rw [mSet_o (by omega)])
      · rw [mSet_e]
        show h3 30 0 12 + 1 = dL r + 1
        rw [F3.2 12 (by omega), L]
    · rintro _ rfl
      refine k _ ?_
      have e : stF t n r = badE 1 (tP t n (dI r)) := if_neg z
      show PR t n (i0 + 1) h (stF t n r) _
      rw [e]
      exact ⟨(F.tr F3.fr).tr (FrR.set ⟨rfl, by omega⟩), B.l12⟩
theorem c7_readLine (R : RDt h t n (dI r)) (D : RDd h r) (W : WfD n r) (L : h 30 0 12 = dL r) {K : mH → Prop} (k : ∀ h2, PR t n (dI r + 1) h (liF t n r) h2 → K h2) : OkV M7_readLine [mR 30 0] h K := by
  have e16 := R.2.2.2.2.2.1
  have hsb := tS_bd (t := t) (n := n) (i := dI r)
  have go : ∀ h2, PR t n (dI r) h (bdF t n r) h2 → A7_readLine_158 K h2 := fun h2 P => c7_line158 P (fun h3 P3 => k h3 P3)
  refine s7_readLine ?_
  rw [e16]
  refine ⟨by omega, fun z => ?_, fun z => c7_bad R (by decide) (fun h2 B F => go h2 ?_)⟩
  · have e17 := R.2.2.2.2.2.2.1 (Or.inl z)
    have hv := tV_bd (t := t) (n := n) (i := dI r) (Or.inl z)
    have hv9 := hv.2.2 z
    have eb : bdF t n r = (if tV t n (dI r) ≤ 5 then bdSet t n r (tV t n (dI r)) else if tV t n (dI r) = 6 then bdFac t n r else if tV t n (dI r) = 7 then bdBand t n r else if tV t n (dI r) = 8 then bdJoin t n r else bdRisk t n r) := by unfold bdF; rw [if_pos z]
    rw [e17]
    rw [eb] at go
    revert go hv9
    have hv0 := hv.1
    revert hv0
    generalize tV t n (dI r) = w
    intro w0 go w9
    refine ⟨by omega, fun z0 => ⟨by omega, fun z1 => ?_, fun z1 => ⟨by omega, fun z2 => ?_, fun z2 => ⟨by omega, fun z4 => ⟨by omega, fun z3 => ⟨by omega, fun z5 => ⟨by omega, fun z6 => ⟨by omega, fun z7 => ⟨by omega, fun z8 => ?_, fun z8 => ?_⟩, fun z7 => ?_⟩, fun z6 => ?_⟩, fun z5 => ?_⟩, fun z3 => ?_⟩, fun z4 => ?_⟩⟩⟩, fun z0 => ?_⟩
    · subst z1
      exact c7_set R D W L (by decide) rfl rfl (fun h2 P => go h2 P)
    · subst z2
      exact c7_set R D W L (by decide) rfl rfl (fun h2 P => go h2 P)
    · rw [if_neg (by omega), if_neg z6, if_neg z7, if_neg z8] at go
      exact c7_readRisk R D W L go
    · subst z8
      exact c7_readJoin R D W L (fun h2 P => go h2 P)
    · subst z7
      exact c7_readBand R D W L (fun h2 P => go h2 P)
    · subst z6
      exact c7_readFactor R D W L (fun h2 P => go h2 P)
    · subst z5
      exact c7_fleet R D W L (fun h2 P => go h2 P)
    · subst z3
      exact c7_set R D W L (by decide) rfl rfl (fun h2 P => go h2 P)
    · subst z4
      exact c7_set R D W L (by decide) rfl rfl (fun h2 P => go h2 P)
    · subst z0
      exact c7_set R D W L (by decide) rfl rfl (fun h2 P => go h2 P)
  · have e : bdF t n r = badE 1 (tP t n (dI r)) := if_neg z
    rw [e]
    exact ⟨F.fr, B⟩
theorem c7_lines {K : mH → Prop} {x : Int} : ∀ (m : Nat) (h2 : mH) (y : Er), (∀ h3, PR t n 0 h (itF t n m y) h3 → K h3) → PR t n (n + 1 - m) h y h2 → (0 : Int) ≤ n → A7_readText_28 K x h2 := by
  intro m
  induction m with
  | zero =>
    intro h2 y k P hn
    obtain ⟨F, P⟩ := P
    cases y with
    | inl e =>
      have B : Bd n h2 e.1 e.2 := P
      exact s7_readText_28 ⟨B.ne.2, fun _ => k h2 ⟨F, B⟩, fun z => absurd z B.ne.1⟩
    | inr r =>
      obtain ⟨p0, R, P⟩ : n + 1 - ((0 : Nat) : Int) ≤ dI r ∧ RDt h2 t n (dI r) ∧ RDd h2 r ∧ WfD n r ∧ h2 30 0 12 = dL r := P
      have := R.2.2.1
      omega
  | succ m ih =>
    intro h2 y k P hn
    obtain ⟨F, P⟩ := P
    cases y with
    | inl e =>
      have B : Bd n h2 e.1 e.2 := P
      rw [it_bad] at k
      exact s7_readText_28 ⟨B.ne.2, fun _ => k h2 ⟨F, B⟩, fun z => absurd z B.ne.1⟩
    | inr r =>
      obtain ⟨p0, R, D, W, L⟩ : n + 1 - ((m + 1 : Nat) : Int) ≤ dI r ∧ RDt h2 t n (dI r) ∧ RDd h2 r ∧ WfD n r ∧ h2 30 0 12 = dL r := P
      have e18 := R.2.2.2.2.2.2.2
      have e16 := R.2.2.2.2.2.1
      have hsb := tS_bd (t := t) (n := n) (i := dI r)
      refine s7_readText_28 ⟨by rw [e18]; decide, fun z => absurd e18 z, fun _ => ?_⟩
      rw [e16]
      refine ⟨by omega, fun z => ?_, fun z => c7_readLine R D W L (fun h3 P3 => ?_)⟩
      · rw [it_end _ z] at k
        exact k h2 ⟨F, R.2.2.1.1, R, D, W, L⟩
      · rw [it_go m z] at k
        refine ih h3 _ k ?_ hn
        obtain ⟨F3, P3⟩ := P3
        refine ⟨F.tr F3, ?_⟩
        revert P3
        cases liF t n r with
        | inl e => exact fun P3 => P3
        | inr r2 =>
          intro P3
          obtain ⟨q0, P4⟩ : dI r + 1 ≤ dI r2 ∧ RDt h3 t n (dI r2) ∧ RDd h3 r2 ∧ WfD n r2 ∧ h3 30 0 12 = dL r2 := P3
          exact ⟨by omega, P4⟩
theorem c7_freshText {K : mH → Prop} (k : ∀ h2, (∀ q j, ¬ (q = 32 ∧ j = 0) → ¬ (q = 33 ∧ j = 0) → h2 q j = h q j) → (∀ j, j < 9 → h2 32 0 j = h 32 0 j) → RDn h2 p00 s00 → (∀ w, 0 ≤ w → w < 6 → h2 33 0 w = 0) → K h2) : OkV M7_freshText [mR 30 0] h K := by
  have key := upI (P := fun x => ∀ g : Int → Int, (∀ j, j < 9 → g j = h 32 0 j) → (∀ j, 0 ≤ j → j < x → g (9 + j) = 0) → A7_freshText_2 K x (rs h 32 0 g)) (n := 9) (fun g e1 e2 => ?_) (fun x h5 h6 ih g e1 e2 => ?_) 0 (by decide) (by decide) (h 32 0) (fun _ _ => rfl) (fun j a b => by omega)
  · rw [rs_self] at key
    exact s7_freshText key
  · have st : ∀ (f : Int → Int) (a v : Int), mSet (rs h 32 0 f) 32 0 a v = rs h 32 0 (up f a v) := fun f a v => by rw [mSet_rs, rs_same, rs_rs]
    refine s7_freshText_2 ⟨by decide, fun _ => s7_reads ⟨by decide, ?_⟩, fun z => absurd (Int.le_refl _) z⟩
    rintro _ rfl
    refine s7_reads ⟨by decide, ?_⟩
    rintro _ rfl
    refine s7_reads ⟨by decide, ?_⟩
    rintro _ rfl
    refine s7_reads ⟨by decide, ?_⟩
    rintro _ rfl
    rw [st, st, st, st]
    generalize hg : up (up (up (up g (9 + 0) 1000) (9 + 1) 10) (9 + 2) 250) (9 + 5) 99 = G
    have g1 : ∀ j, j < 9 → G j = h 32 0 j := fun j a => by
      rw [← hg, up_ne (by omega), up_ne (by omega), up_ne (by omega), up_ne (by omega)]; exact e1 j a
    have g2 : RDn (rs h 32 0 G) p00 s00 := by
      unfold RDn
      rw [rs_same, ← hg]
      refine ⟨?_, ?_, ?_, ?_, ?_, ?_, ?_, ?_, ?_⟩
      · rw [up_ne (by decide), up_ne (by decide), up_ne (by decide)]; rfl
      · rw [up_ne (by decide), up_ne (by decide)]; rfl
      · rw [up_ne (by decide)]; rfl
      · rw [up_ne (by decide), up_ne (by decide), up_ne (by decide), up_ne (by decide)]; exact e2 3 (by decide) (by decide)
      · rw [up_ne (by decide), up_ne (by decide), up_ne (by decide), up_ne (by decide)]; exact e2 4 (by decide) (by decide)
      · rfl
      · rw [up_ne (by decide), up_ne (by decide), up_ne (by decide), up_ne (by decide)]; exact e2 6 (by decide) (by decide)
      · rw [up_ne (by decide), up_ne (by decide), up_ne (by decide), up_ne (by decide)]; exact e2 7 (by decide) (by decide)
      · rw [up_ne (by decide), up_ne (by decide), up_ne (by decide), up_ne (by decide)]; exact e2 8 (by decide) (by decide)
    clear hg
    have key := upI (P := fun x => ∀ f : Int → Int, (∀ j, 0 ≤ j → j < x → f j = 0) → A7_freshText_52 K x (rs (rs h 32 0 G) 33 0 f)) (n := 6) (fun f e3 => ?_) (fun x h5 h6 ih f e3 => ?_) 0 (by decide) (by decide) (rs h 32 0 G 33 0) (fun j a b => by omega)
    · rw [rs_self] at key
      exact key
    · refine s7_freshText_52 ⟨by decide, fun _ => k _ (fun q j a b => ?_) (fun j a => ?_) ?_ (fun w a b => ?_), fun z => absurd (Int.le_refl _) z⟩
      · unfold rs
        rw [if_neg b, if_neg a]
      · rw [rs_r (by decide), rs_same]; exact g1 j a
      · unfold RDn
        rw [rs_r (by decide)]
        exact g2
      · rw [rs_same]; exact e3 w a b
    · refine s7_freshText_52 ⟨by omega, fun z => by omega, fun _ => ⟨by omega, ?_⟩⟩
      rintro _ rfl
      rw [mSet_rs, rs_same, rs_rs]
      refine ih _ (fun j a b => ?_)
      unfold up
      by_cases c : j = x
      · rw [if_pos c]
      · rw [if_neg c]; exact e3 j a (by omega)
  · refine s7_freshText_2 ⟨by omega, fun z => by omega, fun _ => s7_reads ⟨by omega, ?_⟩⟩
    rintro _ rfl
    rw [mSet_rs, rs_same, rs_rs]
    refine ih _ (fun j a => by rw [up_ne (by omega)]; exact e1 j a) (fun j a b => ?_)
    unfold up
    by_cases c : j = x
    · rw [if_pos (by omega)]
    · rw [if_neg (by omega)]; exact e2 j a (by omega)
theorem wf00 (hn : 0 ≤ n) : WfD n r00 := by
  have e : ∀ j, 280 ≤ j → j < 304 → s00 j = 10000 := fun j a b => by unfold s00; rw [if_pos ⟨a, b⟩]
  refine ⟨⟨Int.le_refl _, hn⟩, ⟨by decide, fun f a b => ?_⟩, ⟨show WfN s00 by unfold WfN; decide, fun q a b => ?_, fun f a b => ?_, fun f a b => ?_⟩, fun f a b => ?_, e, fun f a b => ⟨?_, rfl⟩, fun f => Or.inl rfl, fun w => Or.inl rfl⟩
  · have : f < 0 := b
    omega
  · have : q < 0 := b
    omega
  · have : f < 0 := b
    omega
  · have : f < 0 := b
    omega
  · have : f < 0 := b
    omega
  · have a2 : 0 ≤ f := a
    show s00 (304 + f) = 0
    unfold s00
    rw [if_neg (by omega), if_neg (by omega), if_neg (by omega), if_neg (by omega)]
theorem c7_readText (T : TR h t n) {K : mH → Prop} (k : ∀ h2, PR t n 0 h (txF t n) h2 → K h2) : OkV M7_readText [mR 30 0, mI n] h K := by
  have hn := T.1.1
  refine s7_readText ?_
  rintro _ rfl _ rfl _ rfl _ rfl
  rw [mSet_rs h, set30, set30, set30]
  generalize hg : up (up (up (up (h 30 0) 13 n) 14 0) 18 0) 12 0 = g
  have F0 : FrR h (rs h 30 0 g) := by
    intro q i j z
    by_cases c : q = 30 ∧ i = 0
    · obtain ⟨rfl, rfl⟩ := c
      have z2 : ¬ (12 ≤ j ∧ j ≤ 19) := fun w => z ⟨rfl, Or.inl ⟨rfl, w⟩⟩
      rw [rs_same, ← hg, up_ne (by omega), up_ne (by omega), up_ne (by omega), up_ne (by omega)]
    · unfold rs
      rw [if_neg c]
  refine c7_freshText (fun h1 f1 f2 f3 f4 => ?_)
  have e30 : h1 30 0 = g := by rw [f1 30 0 (by decide) (by decide), rs_same]
  have T1 : TR h1 t n := ⟨T.1, fun j a b => by rw [f1 31 0 (by decide) (by decide), rs_r (by decide)]; exact T.2 j a b⟩
  have F1 : FrR (rs h 30 0 g) h1 := by
    intro q i j z
    by_cases c : q = 32 ∧ i = 0
    · obtain ⟨rfl, rfl⟩ := c
      exact f2 j (by have : ¬ 9 ≤ j := fun w => z ⟨rfl, Or.inr (Or.inl ⟨rfl, w⟩)⟩; omega)
    · by_cases d : q = 33 ∧ i = 0
      · obtain ⟨rfl, rfl⟩ := d
        exact absurd ⟨rfl, Or.inr (Or.inr (Or.inl rfl))⟩ z
      · rw [f1 q i c d]
  have g13 : h1 30 0 13 = n := by rw [e30, ← hg, up_ne (by decide), up_ne (by decide), up_ne (by decide), up_same]
  have g14 : h1 30 0 14 = 0 := by rw [e30, ← hg, up_ne (by decide), up_ne (by decide), up_same]
  have g18 : h1 30 0 18 = 0 := by rw [e30, ← hg, up_ne (by decide), up_same]
  have g12 : h1 30 0 12 = 0 := by rw [e30, ← hg, up_same]
  refine c7_token T1 g13 g14 (by omega) (fun g2 q1 q4 q5 q6 q7 => ?_)
  refine c7_lines (t := t) (n := n) (h := h) 1000 _ (Sum.inr r00) k ⟨(F0.tr F1).tr (Fr30.g (fun j hj => q1 j (by omega))).fr, ?_, ⟨⟨T.1, fun j a b => by rw [rs_r (by decide)]; exact T1.2 j a b⟩, ?_, ⟨Int.le_refl _, hn.1⟩, ?_, ?_, ?_, ?_, ?_⟩, ?_, wf00 hn.1, ?_⟩ hn.1
  · show n + 1 - ((1000 : Nat) : Int) ≤ 0
    omega
  · rw [rs_same, q1 13 (by omega)]; exact g13
  · rw [rs_same]; exact q4
  · rw [rs_same]; exact q5
  · rw [rs_same]; exact q6
  · rw [rs_same]; exact q7
  · rw [rs_same, q1 18 (by omega)]; exact g18
  · refine RDd.f30 (h := h1) ?_ (Fr30.g (fun j hj => q1 j (by omega)))
    refine ⟨f3, f4, fun f a b => ?_, fun j a b => ?_⟩
    · have : f < 0 := b
      omega
    · have : j < 7 * 0 := b
      omega
  · rw [rs_same, q1 12 (by omega)]; exact g12
end RTEXT
