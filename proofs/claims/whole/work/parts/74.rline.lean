/-! the reference reads a line -/
def RDt (h : mH) (t : Int → Int) (n i : Int) : Prop := TR h t n ∧ h 30 0 13 = n ∧ (0 ≤ i ∧ i ≤ n) ∧ h 30 0 14 = tE t n i ∧ h 30 0 15 = tP t n i ∧ h 30 0 16 = tS t n i ∧ (tS t n i = 0 ∨ tS t n i = 1 ∨ tS t n i = 2 → h 30 0 17 = tV t n i) ∧ h 30 0 18 = 0
def RDn (h : mH) (p : Pn) (s : Int → Int) : Prop := h 32 0 9 = s 308 ∧ h 32 0 10 = bd p ∧ h 32 0 11 = s 309 ∧ h 32 0 12 = sd p ∧ h 32 0 13 = s 311 ∧ h 32 0 14 = s 312 ∧ h 32 0 15 = s 313 ∧ h 32 0 16 = nf p ∧ h 32 0 17 = s 310
def RDf (h : mH) (p : Pn) (nm s b : Int → Int) : Prop := ∀ f, 0 ≤ f → f < nf p → h 34 0 (4 + f) = nm f ∧ h 35 0 (4 + f) = lv p f ∧ h 36 0 (4 + f) = lo p f ∧ h 37 0 (4 + f) = hi p f ∧ h 38 0 (4 + f) = b f ∧ h 39 0 (4 + f) = s (304 + f)
def RDd (h : mH) (r : Rd) : Prop := RDn h (dP r) (dS r) ∧ (∀ w, 0 ≤ w → w < 6 → h 33 0 w = dW r w) ∧ RDf h (dP r) (dN r) (dS r) (dB r) ∧ ∀ j, 0 ≤ j → j < 7 * dS r 310 → h 40 0 j = dS r j
/-- cells that reading may touch -/
def Tc (r : Nat) (i k : Int) : Prop := i = 0 ∧ ((r = 30 ∧ 12 ≤ k ∧ k ≤ 19) ∨ (r = 32 ∧ 9 ≤ k) ∨ r = 33 ∨ (34 ≤ r ∧ r ≤ 39 ∧ 4 ≤ k) ∨ r = 40)
def FrR (h h2 : mH) : Prop := ∀ r i k, ¬ Tc r i k → h2 r i k = h r i k
def Fr30 (h h2 : mH) : Prop := (∀ r j, ¬ (r = 30 ∧ j = 0) → h2 r j = h r j) ∧ ∀ k, ¬ (13 ≤ k ∧ k ≤ 19) → h2 30 0 k = h 30 0 k
def Bd (n : Int) (h : mH) (k p : Int) : Prop := h 30 0 18 = k ∧ h 30 0 19 = p ∧ (1 ≤ k ∧ k ≤ 4) ∧ 0 ≤ p ∧ p ≤ n
def PR (t : Int → Int) (n i0 : Int) (h : mH) (x : Er) (h2 : mH) : Prop := FrR h h2 ∧ match x with
  | Sum.inl e => Bd n h2 e.1 e.2
  | Sum.inr r => i0 ≤ dI r ∧ RDt h2 t n (dI r) ∧ RDd h2 r ∧ WfD n r ∧ h2 30 0 12 = dL r
theorem mSet_o {h : mH} {r r' : Nat} {i k v : Int} (e : r' ≠ r) : mSet h r i k v r' = h r' := by
  funext i' k'
  unfold mSet
  rw [if_neg (fun z => e z.1)]
theorem mSet_kk {h : mH} {r r' : Nat} {i i' k k' v : Int} (e : k' ≠ k) : mSet h r i k v r' i' k' = h r' i' k' := by
  unfold mSet
  rw [if_neg (fun z => e z.2.2)]
theorem mSet_e {h : mH} {r : Nat} {i k v : Int} : mSet h r i k v r i k = v := by
  unfold mSet
  rw [if_pos ⟨rfl, rfl, rfl⟩]
section RLINE
variable {h h2 h3 : mH} {t : Int → Int} {n i : Int} {r : Rd}
theorem FrR.rf (h : mH) : FrR h h := fun _ _ _ _ => rfl
theorem FrR.tr (a : FrR h h2) (b : FrR h2 h3) : FrR h h3 := fun r i k z => (b r i k z).trans (a r i k z)
theorem FrR.set {q : Nat} {j k v : Int} (c : Tc q j k) : FrR h (mSet h q j k v) := by
  intro r i m z
  unfold mSet
  rw [if_neg]
  rintro ⟨rfl, rfl, rfl⟩
  exact z c
theorem Fr30.fr (a : Fr30 h h2) : FrR h h2 := by
  intro r i k z
  by_cases c : r = 30 ∧ i = 0
  · obtain ⟨rfl, rfl⟩ := c
    exact a.2 k (fun w => z ⟨rfl, Or.inl ⟨rfl, by omega, by omega⟩⟩)
  · rw [a.1 r i c]
theorem Fr30.rf (h : mH) : Fr30 h h := ⟨fun _ _ _ => rfl, fun _ _ => rfl⟩
theorem Fr30.tr (a : Fr30 h h2) (b : Fr30 h2 h3) : Fr30 h h3 := ⟨fun r j z => (b.1 r j z).trans (a.1 r j z), fun k z => (b.2 k z).trans (a.2 k z)⟩
theorem Fr30.g {g : Int → Int} (hg : ∀ k, ¬ (13 ≤ k ∧ k ≤ 19) → g k = h 30 0 k) : Fr30 h (rs h 30 0 g) := ⟨fun r j z => by unfold rs; rw [if_neg z], fun k z => by rw [rs_same]; exact hg k z⟩
theorem RDd.fr (D : RDd h r) (e : ∀ q, 32 ≤ q → q ≤ 40 → h2 q 0 = h q 0) : RDd h2 r := by
  unfold RDd RDn RDf
  rw [e 32 (by decide) (by decide), e 33 (by decide) (by decide), e 34 (by decide) (by decide), e 35 (by decide) (by decide), e 36 (by decide) (by decide), e 37 (by decide) (by decide), e 38 (by decide) (by decide), e 39 (by decide) (by decide), e 40 (by decide) (by decide)]
  exact D
theorem RDd.f30 (D : RDd h r) (F : Fr30 h h2) : RDd h2 r := D.fr (fun q a b => F.1 q 0 (by omega))
theorem RDt.fr (R : RDt h t n i) (e0 : h2 30 0 = h 30 0) (e1 : h2 31 0 = h 31 0) : RDt h2 t n i := by
  unfold RDt TR
  rw [e0, e1]
  exact R
theorem RDt.set (R : RDt h t n i) {q : Nat} {j k v : Int} (hq : 32 ≤ q) : RDt (mSet h q j k v) t n i := R.fr (by rw [mSet_o (by omega)]) (by rw [mSet_o (by omega)])
theorem Bd.ne {k p : Int} (B : Bd n h k p) : ¬ h 30 0 18 = 0 ∧ mInR (h 30 0 18) := by
  rw [B.1]
  have := B.2.2.1
  omega
theorem Bd.fr {k p : Int} (B : Bd n h k p) (e : h2 30 0 = h 30 0) : Bd n h2 k p := by unfold Bd; rw [e]; exact B
theorem Bd.set {k p : Int} (B : Bd n h k p) {q : Nat} {j m v : Int} (hq : 32 ≤ q) : Bd n (mSet h q j m v) k p := B.fr (by rw [mSet_o (by omega)])
theorem f7_goOn {k p : Int} (B : Bd n h k p) {K : mH → Prop} (kk : K h) : OkV M7_goOn [mR 30 0] h K := s7_goOn ⟨B.ne.2, fun _ => kk, fun z => absurd z B.ne.1⟩
theorem f7_num {k p lo hi : Int} (B : Bd n h k p) {K : Int → mH → Prop} (kk : K lo h) : OkI M7_numeral [mR 30 0, mI lo, mI hi] h K := s7_numeral ⟨B.ne.2, fun z => absurd z B.ne.1, fun _ => kk⟩
theorem f7_wrong {k p x : Int} (B : Bd n h k p) {K : mH → Prop} (kk : K h) : OkV M7_wrong [mR 30 0, mI x] h K := s7_wrong ⟨B.ne.2, fun z => absurd z B.ne.1, fun _ => kk⟩
theorem RDt.pb (R : RDt h t n i) : 0 ≤ tP t n i ∧ tP t n i ≤ n := by
  have := tP_bd (t := t) R.2.2.1.2
  have := R.2.2.1.1
  omega
theorem RDt.eb (R : RDt h t n i) : 0 ≤ tE t n i ∧ tE t n i ≤ n := by
  have := tE_bd (t := t) R.2.2.1.2
  have := R.pb
  omega
theorem c7_bad (R : RDt h t n i) {x : Int} (hx : 1 ≤ x ∧ x ≤ 4) {K : mH → Prop} (k : ∀ h2, Bd n h2 x (tP t n i) → Fr30 h h2 → K h2) : OkV M7_wrong [mR 30 0, mI x] h K := by
  have e18 := R.2.2.2.2.2.2.2
  refine s7_wrong ⟨by rw [e18]; decide, fun _ => ?_, fun z => absurd e18 z⟩
  rintro _ rfl _ rfl
  rw [mSet_rs h 30 0 18 x, set30, rs_same, up_ne (show (15 : Int) ≠ 18 by decide), R.2.2.2.2.1]
  refine k _ ⟨by rw [rs_same, up_ne (by decide), up_same], by rw [rs_same, up_same], hx, R.pb⟩ (Fr30.g (fun j hj => by rw [up_ne (by omega), up_ne (by omega)]))
theorem c7_tokN (R : RDt h t n i) {K : mH → Prop} (k : ∀ h2, RDt h2 t n (tE t n i) → Fr30 h h2 → K h2) : OkV M7_token [mR 30 0] h K := by
  refine c7_token R.1 R.2.1 R.2.2.2.1 R.eb (fun g h1 h4 h5 h6 h7 => k _ ⟨⟨R.1.1, fun j a b => by rw [rs_r (by decide)]; exact R.1.2 j a b⟩, ?_, R.eb, ?_, ?_, ?_, ?_, ?_⟩ (Fr30.g (fun j hj => h1 j (by omega))))
  · rw [rs_same, h1 13 (by omega)]; exact R.2.1
  · rw [rs_same]; exact h4
  · rw [rs_same]; exact h5
  · rw [rs_same]; exact h6
  · rw [rs_same]; exact h7
  · rw [rs_same, h1 18 (by omega)]; exact R.2.2.2.2.2.2.2
theorem c7_goOn (R : RDt h t n i) {K : mH → Prop} (k : ∀ h2, RDt h2 t n (tE t n i) → Fr30 h h2 → K h2) : OkV M7_goOn [mR 30 0] h K := by
  have e18 := R.2.2.2.2.2.2.2
  exact s7_goOn ⟨by rw [e18]; decide, fun z => absurd e18 z, fun _ => c7_tokN R k⟩
theorem c7_num (R : RDt h t n i) {lo hi : Int} (hlo : mInR lo) (hhi : mInR hi) {K : Int → mH → Prop} (k1 : ∀ h2, (∀ ok, nuK t n i lo hi ok = ok (tV t n i)) → lo ≤ tV t n i → tV t n i ≤ hi → RDt h2 t n (tE t n i) → Fr30 h h2 → K (tV t n i) h2) (k0 : ∀ h2 k, (∀ ok, nuK t n i lo hi ok = badE k (tP t n i)) → Bd n h2 k (tP t n i) → Fr30 h h2 → K lo h2) : OkI M7_numeral [mR 30 0, mI lo, mI hi] h K := by
  have e18 := R.2.2.2.2.2.2.2
  have e16 := R.2.2.2.2.2.1
  have hsb := tS_bd (t := t) (n := n) (i := i)
  have fin : ∀ h2 k, Bd n h2 k (tP t n i) → K lo h2 → A7_numeral_46 K lo hi h2 := fun h2 k B kk => s7_numeral_46 ⟨B.ne.2, fun _ => f7_goOn B kk, fun z => absurd z B.ne.1⟩
  refine s7_numeral ⟨by rw [e18]; decide, fun _ => ?_, fun z => absurd e18 z⟩
  rw [e16]
  refine ⟨by omega, fun z => ?_, fun z => ?_⟩
  · have e17 := R.2.2.2.2.2.2.1 (Or.inr (Or.inr z))
    have hv := tV_bd (t := t) (n := n) (i := i) (Or.inr (Or.inr z))
    rw [e17]
    have no : ¬ (lo ≤ tV t n i ∧ tV t n i ≤ hi) → OkV M7_wrong [mR 30 0, mI 2] h (fun h1 => A7_numeral_46 K lo hi h1) := fun w => c7_bad R (by decide) (fun h2 B F => fin h2 2 B (k0 h2 2 (fun ok => by unfold nuK; rw [if_pos z, if_neg w]) B F))
    refine ⟨⟨by omega, hlo⟩, fun z2 => no (by omega), fun z2 => ⟨⟨by omega, hhi⟩, fun z3 => ?_, fun z3 => no (by omega)⟩⟩
    refine s7_numeral_46 ⟨by rw [e18]; decide, fun w => absurd e18 w, fun _ => c7_goOn R (fun h2 R2 F2 => ?_)⟩
    rw [e17]
    exact k1 h2 (fun ok => by unfold nuK; rw [if_pos z, if_pos ⟨by omega, z3⟩]) (by omega) z3 R2 F2
  · exact c7_bad R (by decide) (fun h2 B F => fin h2 1 B (k0 h2 1 (fun ok => by unfold nuK; rw [if_neg z]) B F))
theorem c7_reading {K : Int → mH → Prop} {x : Int} (hx : 0 ≤ x ∧ x < 9) (k : K (h 32 0 (9 + x)) h) : OkI M7_reading [mR 30 0, mI x] h K := s7_reading ⟨by omega, k⟩
theorem c7_namedR (D : RDd h r) (W : WfD n r) {K : Int → mH → Prop} {x : Int} (hx : mInR x) (k : K (fnd (dP r) (dN r) x) h) : OkI M7_namedAt [mR 30 0, mI 4, mI (nf (dP r)), mI x] h K := by
  have hn := W.2.1.1.1
  have key := upI (P := fun f => (∀ j, 0 ≤ j → j < f → decide (dN r j = x) = false) → A7_namedAt_3 K 4 (nf (dP r)) x f h) (n := nf (dP r)) (fun hj => ?_) (fun f h5 h6 ih hj => ?_) 0 (by omega) (by omega) (fun j a b => by omega)
  · exact s7_namedAt key
  · refine s7_namedAt_3 ⟨by omega, fun _ => ?_, fun z => absurd (Int.le_refl _) z⟩
    unfold fnd at k
    rw [ls_no hj, if_pos rfl] at k
    exact k
  · have e := (D.2.2.1 f h5 h6).1
    refine s7_namedAt_3 ⟨by omega, fun z => by omega, fun _ => ⟨by omega, ?_⟩⟩
    rw [e]
    refine ⟨⟨W.2.2.2.1 f h5 h6, hx⟩, fun z => ih (fun j a b => ?_), fun z => ?_⟩
    · by_cases c : j = f
      · rw [c]; exact decide_eq_false z
      · exact hj j a (by omega)
    · unfold fnd at k
      rw [ls_yes h5 h6 (decide_eq_true z) hj, if_neg (by omega)] at k
      exact k
theorem fnd_bd (W : WfD n r) (x : Int) : fnd (dP r) (dN r) x = -1 ∨ (0 ≤ fnd (dP r) (dN r) x ∧ fnd (dP r) (dN r) x < nf (dP r)) := by
  have hn := W.2.1.1.1
  have := ls_bd (P := fun f => decide (dN r f = x)) (n := nf (dP r)) hn.1
  unfold fnd
  by_cases c : ls (fun f => decide (dN r f = x)) (nf (dP r)) = -2
  · rw [if_pos c]; exact Or.inl rfl
  · rw [if_neg c]; exact Or.inr (this.resolve_left c)
/-! settings -/
theorem RDn.set {p : Pn} {s : Int → Int} (N : RDn h p s) {w v : Int} (hw : 0 ≤ w ∧ w ≤ 5) : RDn (mSet h 32 0 (9 + w) v) (setP p w v) (setS s w v) := by
  obtain ⟨n0, n1, n2, n3, n4, n5, n6, n7, n8⟩ := N
  have : w = 0 ∨ w = 1 ∨ w = 2 ∨ w = 3 ∨ w = 4 ∨ w = 5 := by omega
  unfold RDn setS setP mSet bd sd nf up
  rcases this with rfl | rfl | rfl | rfl | rfl | rfl <;> simp <;> exact ⟨by first | assumption | rfl, by first | assumption | rfl, by first | assumption | rfl, by first | assumption | rfl, by first | assumption | rfl, by first | assumption | rfl, by first | assumption | rfl, by first | assumption | rfl⟩
theorem RDd.setw (D : RDd h r) (W : WfD n r) {j w v : Int} (hw : 0 ≤ w ∧ w ≤ 5) (e33 : ∀ x, 0 ≤ x → x < 6 → h2 33 0 x = up (dW r) w 1 x) (e32 : h2 32 0 = h 32 0) (e : ∀ q, 34 ≤ q → q ≤ 40 → h2 q 0 = h q 0) : RDd (mSet h2 32 0 (9 + w) v) (j, setP (dP r) w v, dN r, setS (dS r) w v, up (dW r) w 1, dB r, dL r) := by
  obtain ⟨d1, d2, d3, d4⟩ := D
  have d1b : RDn h2 (dP r) (dS r) := by unfold RDn; rw [e32]; exact d1
  have hm := W.2.2.1.1.1
  refine ⟨d1b.set hw, fun x a b => ?_, fun f a b => ?_, fun k a b => ?_⟩
  · rw [mSet_o (by decide)]; exact e33 x a b
  · have hn := W.2.1.1.1
    have b2 : f < nf (dP r) := b
    rw [mSet_o (by decide), mSet_o (by decide), mSet_o (by decide), mSet_o (by decide), mSet_o (by decide), mSet_o (by decide), e 34 (by decide) (by decide), e 35 (by decide) (by decide), e 36 (by decide) (by decide), e 37 (by decide) (by decide), e 38 (by decide) (by decide), e 39 (by decide) (by decide)]
    show _ ∧ _ ∧ _ ∧ _ ∧ _ ∧ h 39 0 (4 + f) = setS (dS r) w v (304 + f)
    rw [setS_in _ _ _ _ (by omega)]
    exact d3 f a b
  · have b2 : k < 7 * setS (dS r) w v 310 := b
    rw [setS_in _ _ _ _ (by omega)] at b2
    rw [mSet_o (by decide), e 40 (by decide) (by decide)]
    show h 40 0 k = setS (dS r) w v k
    rw [setS_in _ _ _ _ (by omega)]
    exact d4 k a b2
theorem c7_once (R : RDt h t n (dI r)) (D : RDd h r) (W : WfD n r) (L : h 30 0 12 = dL r) {w : Int} (hw : 0 ≤ w ∧ w ≤ 5) {K : mH → Prop}
    (k1 : ∀ h2 v, dW r w = 0 → (∀ ok, nuK t n (tE t n (dI r)) (loW w) (hiW w) ok = ok v) → loW w ≤ v → v ≤ hiW w → RDt h2 t n (tE t n (tE t n (dI r))) → RDd h2 (tE t n (tE t n (dI r)), setP (dP r) w v, dN r, setS (dS r) w v, up (dW r) w 1, dB r, dL r) → FrR h h2 → h2 30 0 12 = dL r → K h2)
    (k0 : ∀ h2 k p, bdSet t n r w = badE k p → Bd n h2 k p → FrR h h2 → K h2) : OkV M7_readOnce [mR 30 0, mI w, mI (loW w), mI (hiW w)] h K := by
  have e33 := D.2.1 w (by omega) (by omega)
  have hT := W.2.2.2.2.2.2.2 w
  have hlo : mInR (loW w) := by unfold loW; split <;> decide
  have hhi : mInR (hiW w) := by unfold hiW; repeat' split
                                all_goals decide
  refine s7_readOnce ⟨by omega, ?_⟩
  rw [e33]
  refine ⟨by omega, fun z => ?_, fun z => c7_bad R (by decide) (fun h2 B F => ?_)⟩
  · refine s7_readOnce_14 ⟨by omega, ?_⟩
    rintro _ rfl
    have F1 : FrR h (mSet h 33 0 w 1) := FrR.set ⟨rfl, by omega⟩
    refine c7_goOn (R.set (by decide)) (fun h2 R2 F2 => c7_num R2 hlo hhi (fun h3 e a b R3 F3 => ?_) (fun h3 k e B F3 => ?_))
    · refine s7_reads ⟨by omega, ?_⟩
      rintro _ rfl
      have F4 := F2.tr F3
      refine k1 _ _ z e a b (R3.set (by decide)) (D.setw W hw (fun x c d => ?_) ?_ (fun q c d => ?_)) ((F1.tr F4.fr).tr (FrR.set ⟨rfl, by omega⟩)) ?_
      · rw [F4.1 33 0 (by decide), mSet_rs, rs_same]
        unfold up
        by_cases y : x = w
        · rw [if_pos y, if_pos y]
        · rw [if_neg y, if_neg y]; exact D.2.1 x c d
      · rw [F4.1 32 0 (by decide), mSet_o (by decide)]
      · rw [F4.1 q 0 (by omega), mSet_o (by omega)]
      · rw [mSet_o (by decide), F4.2 12 (by omega), mSet_o (by decide)]; exact L
    · refine s7_reads ⟨by omega, ?_⟩
      rintro _ rfl
      refine k0 _ k _ ?_ (B.set (by decide)) ((F1.tr (F2.tr F3).fr).tr (FrR.set ⟨rfl, by omega⟩))
      unfold bdSet
      rw [if_pos z, e]
  · refine s7_readOnce_14 ⟨by omega, ?_⟩
    rintro _ rfl
    have B2 : Bd n (mSet h2 33 0 w 1) 3 (tP t n (dI r)) := B.set (by decide)
    refine f7_goOn B2 (f7_num B2 (s7_reads ⟨by omega, ?_⟩))
    rintro _ rfl
    refine k0 _ 3 _ ?_ (B2.set (by decide)) ((F.fr.tr (FrR.set ⟨rfl, by omega⟩)).tr (FrR.set ⟨rfl, by omega⟩))
    unfold bdSet
    rw [if_neg z]
end RLINE
