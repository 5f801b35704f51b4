/-! the reference's whole state; what is remembered -/
def cut (a b : Int → Int) : Int → Int := fun j => if 0 ≤ j ∧ j < 314 then a j else b j
theorem cut_in {a b : Int → Int} {j : Int} (h0 : 0 ≤ j) (h1 : j < 314) : cut a b j = a j := by unfold cut; rw [if_pos ⟨h0, h1⟩]
/-- only the places 0 .. 313 count -/
theorem WfS.on {p : Pn} {s t : Int → Int} (hp : WfP p) (hs : WfS p s) (e : ∀ j, 0 ≤ j → j < 314 → t j = s j) : WfS p t := by
  have hn := hp.1.1
  have hm := hs.1.1
  have e310 := e 310 (by omega) (by omega)
  refine ⟨?_, fun r a b => ?_, fun g a b k c d => ?_, fun g a b k c d z => ?_⟩
  · unfold WfN
    rw [e310, e 308 (by omega) (by omega), e 309 (by omega) (by omega), e 311 (by omega) (by omega), e 312 (by omega) (by omega), e 313 (by omega) (by omega)]
    exact hs.1
  · rw [e310] at b
    have := hs.2.1 r a b
    unfold WfR at this ⊢
    rw [e (7 * r + 0) (by omega) (by omega), e (7 * r + 1) (by omega) (by omega), e (7 * r + 2) (by omega) (by omega)]
    refine ⟨this.1, this.2.1, this.2.2.1, fun q c d => ?_⟩
    rw [e (7 * r + 3 + q) (by omega) (by omega)]
    exact this.2.2.2 q c d
  · have := hp.2 g a b
    rw [e _ (by omega) (by omega)]
    exact hs.2.2.1 g a b k c d
  · have := hp.2 g a b
    rw [e (304 + g) (by omega) (by omega)] at z
    have h3 := hs.2.2.2 g a b k c d z
    rw [e (280 + 6 * g + k) (by omega) (by omega), e (280 + 6 * g + (k + 1)) (by omega) (by omega)]
    exact h3
theorem WfS.cut {p : Pn} {s : Int → Int} (hp : WfP p) (hs : WfS p s) (b : Int → Int) : WfS p (cut s b) := hs.on hp (fun _ h0 h1 => cut_in h0 h1)
def RI (h : mH) (p : Pn) (fi : Int) (im : Int → Int) : Prop := h 30 0 27 = fi ∧ (fi = 0 ∨ fi = 1) ∧ (fi = 1 → WfS p im ∧ ∀ j, 0 ≤ j → j < 314 → h 43 0 j = im j)
def RU (h : mH) (p : Pn) (u : Int) (pa : Int → Int → Int) : Prop := h 30 0 26 = u ∧ (0 ≤ u ∧ u ≤ 20) ∧ ∀ k, 0 ≤ k → k < u → WfS p (pa k) ∧ ∀ j, 0 ≤ j → j < 314 → h 44 0 (314 * k + j) = pa k j
def RT (h : mH) (t : Int) (tp : Int → Int) : Prop := h 30 0 2 = t ∧ (0 ≤ t ∧ t ≤ 900) ∧ ∀ j, 0 ≤ j → j < t → h 31 0 j = tp j ∧ 0 ≤ tp j ∧ tp j ≤ 255
def RF (h : mH) (fk fp : Int) : Prop := h 30 0 20 = fk ∧ h 30 0 21 = fp ∧ mInR fk ∧ mInR fp
def RN (h : mH) (p : Pn) (nm : Int → Int) : Prop := ∀ f, 0 ≤ f → f < nf p → h 34 0 f = nm f ∧ mInR (nm f)
/-- all that the reference knows -/
def RS (h : mH) (p : Pn) (nm s : Int → Int) (fi : Int) (im : Int → Int) (u : Int) (pa : Int → Int → Int) (t : Int) (tp : Int → Int) (fk fp : Int) : Prop := Rf h p s ∧ RN h p nm ∧ RI h p fi im ∧ RU h p u pa ∧ RT h t tp ∧ RF h fk fp
/-- only the reference's cells are touched -/
def FrC (h h2 : mH) : Prop := ∀ r, r < 30 ∨ 45 < r → ∀ i, h2 r i = h r i
theorem FrC.rf (h : mH) : FrC h h := fun _ _ _ => rfl
theorem FrC.tr {h h2 h3 : mH} (a : FrC h h2) (b : FrC h2 h3) : FrC h h3 := fun r hr i => (b r hr i).trans (a r hr i)
theorem FrC.rs {h : mH} {r : Nat} {i : Int} {f : Int → Int} (hr : 30 ≤ r ∧ r ≤ 45) : FrC h (rs h r i f) := fun q hq j => rs_r (by omega)
section RSS
variable {h : mH} {p : Pn} {nm s im : Int → Int} {fi u t fk fp : Int} {pa : Int → Int → Int} {tp : Int → Int}
/-- what isn't looked at may change -/
theorem RS.fr {h2 : mH} (R : RS h p nm s fi im u pa t tp fk fp) (e : ∀ r, r = 31 ∨ r = 32 ∨ r = 34 ∨ r = 35 ∨ r = 36 ∨ r = 37 ∨ r = 41 ∨ r = 43 ∨ r = 44 → h2 r 0 = h r 0) (e2 : ∀ k, k = 2 ∨ k = 20 ∨ k = 21 ∨ k = 26 ∨ k = 27 → h2 30 0 k = h 30 0 k) : RS h2 p nm s fi im u pa t tp fk fp := by
  obtain ⟨r1, r2, r3, r4, r5, r6⟩ := R
  refine ⟨r1.fr (fun r hr => e r (by omega)), fun f a b => by rw [e 34 (by omega)]; exact r2 f a b, ?_, ?_, ?_, ?_⟩
  · unfold RI at r3 ⊢
    rw [e2 27 (by omega), e 43 (by omega)]; exact r3
  · unfold RU at r4 ⊢
    rw [e2 26 (by omega), e 44 (by omega)]; exact r4
  · unfold RT at r5 ⊢
    rw [e2 2 (by omega), e 31 (by omega)]; exact r5
  · unfold RF at r6 ⊢
    rw [e2 20 (by omega), e2 21 (by omega)]; exact r6
/-- thrown becomes something -/
theorem RS.th (R : RS h p nm s fi im u pa t tp fk fp) (v : Int) : RS (rs h 30 0 (up (h 30 0) 0 v)) p nm s fi im u pa t tp fk fp :=
  R.fr (fun r hr => rs_r (by omega)) (fun k hk => by rw [rs_same, up_ne (by omega)])
/-- another row s -/
theorem RS.row (R : RS h p nm s fi im u pa t tp fk fp) {s2 : Int → Int} (hs : WfS p s2) : RS (rs h 41 0 s2) p nm s2 fi im u pa t tp fk fp := by
  obtain ⟨r1, r2, r3, r4, r5, r6⟩ := R
  refine ⟨r1.row hs, fun f a b => by rw [rs_r (by decide)]; exact r2 f a b, ?_, ?_, ?_, ?_⟩
  · unfold RI at r3 ⊢
    rw [rs_r (by decide), rs_r (by decide)]; exact r3
  · unfold RU at r4 ⊢
    rw [rs_r (by decide), rs_r (by decide)]; exact r4
  · unfold RT at r5 ⊢
    rw [rs_r (by decide), rs_r (by decide)]; exact r5
  · unfold RF at r6 ⊢
    rw [rs_r (by decide)]; exact r6
end RSS
/-- places x3 .. become places x1 .. of another row -/
def cp (a : Int → Int) (i : Int) (b : Int → Int) (k n : Int) : Int → Int := fun j => if k ≤ j ∧ j < k + n then a (i + (j - k)) else b j
theorem c7_copies {h : mH} {K : mH → Prop} {q0 q2 : Nat} {i0 i2 n0 n2 x1 x3 : Int} (hq0 : mRo q0 1 n0) (hq2 : mRo q2 1 n2) (hne : q0 ≠ q2) (h1 : 0 ≤ x1 ∧ x1 + 314 ≤ n0) (h3 : 0 ≤ x3 ∧ x3 + 314 ≤ n2) (k : K (rs h q2 i2 (cp (h q0 i0) x1 (h q2 i2) x3 314))) : OkV M7_copies [mR q0 i0, mI x1, mR q2 i2, mI x3] h K := by
  have key := upI (P := fun q => A7_copies_3 K q0 i0 n0 q2 i2 n2 x1 x3 q (rs h q2 i2 (cp (h q0 i0) x1 (h q2 i2) x3 q))) (n := 314) ?_ (fun q h5 h6 ih => ?_) 0 (by omega) (by omega)
  · have e : cp (h q0 i0) x1 (h q2 i2) x3 0 = h q2 i2 := by
      funext j
      unfold cp
      rw [if_neg (by omega)]
    rw [e, rs_self] at key
    exact s7_copies hq0 hq2 key
  · exact s7_copies_3 hq0 hq2 ⟨by decide, fun _ => k, fun z => absurd (Int.le_refl _) z⟩
  · refine s7_copies_3 hq0 hq2 ⟨by omega, fun z => by omega, fun _ => ⟨by omega, by omega, ?_⟩⟩
    rintro _ rfl
    rw [mSet_rs, rs_same, rs_rs, rs_r hne]
    have e : up (cp (h q0 i0) x1 (h q2 i2) x3 q) (x3 + q) (h q0 i0 (x1 + q)) = cp (h q0 i0) x1 (h q2 i2) x3 (q + 1) := by
      funext j
      unfold up cp
      by_cases c : j = x3 + q
      · rw [if_pos c, if_pos (by omega), c, show x1 + (x3 + q - x3) = x1 + q by omega]
      · rw [if_neg c]
        by_cases d : x3 ≤ j ∧ j < x3 + q
        · rw [if_pos d, if_pos (by omega)]
        · rw [if_neg d, if_neg (by omega)]
    rw [e]
    exact ih
/-- what is remembered then -/
def puU (u : Int) : Int := if u = 20 then 20 else u + 1
def puP (u : Int) (pa : Int → Int → Int) (s : Int → Int) : Int → Int → Int := fun k => if u = 20 then (if k = 19 then s else pa (k + 1)) else (if k = u then s else pa k)
section REM
variable {h : mH} {p : Pn} {nm s im : Int → Int} {fi u t fk fp : Int} {pa : Int → Int → Int} {tp : Int → Int}
theorem c7_remembers (R : RS h p nm s fi im u pa t tp fk fp) {K : mH → Prop} (k : ∀ h2, RS h2 p nm s fi im (puU u) (puP u pa s) t tp fk fp → FrC h h2 → (∀ r, r ≠ 44 → r ≠ 30 → h2 r 0 = h r 0) → K h2) : OkV M7_remembers [mR 30 0] h K := by
  obtain ⟨r1, r2, r3, ⟨u1, u2, u3⟩, r5, r6⟩ := id R
  have tail : ∀ (g : Int → Int) (v : Int) (pb : Int → Int → Int), (0 ≤ v ∧ v ≤ 19) → (∀ q, 0 ≤ q → q < v → WfS p (pb q) ∧ ∀ j, 0 ≤ j → j < 314 → g (314 * q + j) = pb q j) → (∀ q, 0 ≤ q → q < v → puP u pa s q = pb q) → puP u pa s v = s → v + 1 = puU u → ∀ h1, h1 = rs (rs h 44 0 g) 30 0 (up (h 30 0) 26 v) → A7_remembers_50 K h1 := by
    rintro g v pb hv hg hb hs0 hu h1 rfl
    refine s7_remembers_50 ?_
    rw [rs_same, up_same]
    refine c7_copies ro_41 ro_44 (by decide) (by omega) (by omega) ?_
    rintro _ rfl
    rw [mSet_rs]
    simp only [rs_r (h := rs (rs h 44 0 g) 30 0 (up (h 30 0) 26 v)) (r := 44) (r' := 30) (i := 0) (i' := 0) (f := cp (rs (rs h 44 0 g) 30 0 (up (h 30 0) 26 v) 41 0) 0 (rs (rs h 44 0 g) 30 0 (up (h 30 0) 26 v) 44 0) (314 * v) 314) (by decide), rs_same, up_same, up_up]
    refine k _ ?_ ?_ (fun r ha hb => by rw [rs_r hb, rs_r ha, rs_r hb, rs_r ha])
    · refine ⟨r1.fr (fun r hr => ?_), fun f a b => ?_, ?_, ?_, ?_, ?_⟩
      · rw [rs_r (by omega), rs_r (by omega), rs_r (by omega), rs_r (by omega)]
      · rw [rs_r (by decide), rs_r (by decide), rs_r (by decide), rs_r (by decide)]; exact r2 f a b
      · unfold RI at r3 ⊢
        rw [rs_same, up_ne (by decide), rs_r (by decide), rs_r (by decide), rs_r (by decide), rs_r (by decide)]; exact r3
      · refine ⟨by rw [rs_same, up_same]; exact hu, by rw [← hu]; omega, fun q a b => ?_⟩
        rw [← hu] at b
        rw [rs_r (by decide), rs_same]
        by_cases c : q = v
        · subst c
          rw [hs0]
          refine ⟨r1.2.2.2, fun j d e => ?_⟩
          unfold cp
          rw [if_pos (by omega), rs_r (by decide), rs_r (by decide), r1.es, show 0 + (314 * q + j - 314 * q) = j by omega]
        · have h7 := hg q a (by omega)
          rw [hb q a (by omega)]
          refine ⟨h7.1, fun j d e => ?_⟩
          unfold cp
          rw [if_neg (by omega), rs_r (by decide), rs_same]
          exact h7.2 j d e
      · unfold RT at r5 ⊢
        rw [rs_same, up_ne (by decide), rs_r (by decide), rs_r (by decide), rs_r (by decide), rs_r (by decide)]; exact r5
      · unfold RF at r6 ⊢
        rw [rs_same, up_ne (by decide), up_ne (by decide)]; exact r6
    · exact ((FrC.rs (by decide)).tr (FrC.rs (by decide))).tr ((FrC.rs (by decide)).tr (FrC.rs (by decide)))
  refine s7_remembers ?_
  rw [u1]
  refine ⟨by omega, fun z => ?_, fun z => ?_⟩
  · refine tail (h 44 0) u pa (by omega) u3 (fun q a b => ?_) ?_ ?_ h ?_
    · unfold puP; rw [if_neg z, if_neg (by omega)]
    · unfold puP; rw [if_neg z, if_pos rfl]
    · unfold puU; rw [if_neg z]
    · rw [rs_self]
      have e : up (h 30 0) 26 u = h 30 0 := by
        funext j
        unfold up
        by_cases c : j = 26
        · rw [if_pos c, c, u1]
        · rw [if_neg c]
      rw [e, rs_self]
  · have key := upI (P := fun q => A7_remembers_11 K q (rs h 44 0 (fun j => if 0 ≤ j ∧ j < q then h 44 0 (314 + j) else h 44 0 j))) (n := 5966) ?_ (fun q h5 h6 ih => ?_) 0 (by omega) (by omega)
    · have e : (fun j => if 0 ≤ j ∧ j < 0 then h 44 0 (314 + j) else h 44 0 j) = h 44 0 := by
        funext j
        rw [if_neg (by omega)]
      rw [e, rs_self] at key
      exact key
    · refine s7_remembers_11 ⟨by decide, fun _ => ?_, fun w => absurd (Int.le_refl _) w⟩
      rintro _ rfl
      rw [mSet_rs, rs_r (by decide), u1, z]
      refine tail _ 19 (fun q => pa (q + 1)) (by decide) (fun q a b => ?_) (fun q a b => ?_) ?_ ?_ _ rfl
      · have h7 := u3 (q + 1) (by omega) (by omega)
        refine ⟨h7.1, fun j c d => ?_⟩
        rw [if_pos (by omega), show 314 + (314 * q + j) = 314 * (q + 1) + j by omega]
        exact h7.2 j c d
      · unfold puP; rw [if_pos z, if_neg (by omega)]
      · unfold puP; rw [if_pos z, if_pos rfl]
      · unfold puU; rw [if_pos z]; rfl
    · refine s7_remembers_11 ⟨by omega, fun w => by omega, fun _ => ⟨by omega, by omega, ?_⟩⟩
      rintro _ rfl
      rw [mSet_rs, rs_same, rs_rs]
      have e : up (fun j => if 0 ≤ j ∧ j < q then h 44 0 (314 + j) else h 44 0 j) q (if 0 ≤ 314 + q ∧ 314 + q < q then h 44 0 (314 + (314 + q)) else h 44 0 (314 + q)) = (fun j => if 0 ≤ j ∧ j < q + 1 then h 44 0 (314 + j) else h 44 0 j) := by
        funext j
        unfold up
        by_cases c : j = q
        · rw [if_pos c, if_neg (by omega), if_pos (by omega), c]
        · rw [if_neg c]
          dsimp only
          by_cases d : 0 ≤ j ∧ j < q
          · rw [if_pos d, if_pos (by omega)]
          · rw [if_neg d, if_neg (by omega)]
      rw [e]
      exact ih
end REM
