/-! what lies beyond a row's end doesn't count -/
theorem mEnt_congr {cA : Nat → ClassId} {ad : Nat → Int → Nat} {h h2 : mH} {q : Nat × Int} (e : h q.1 q.2 = h2 q.1 q.2) : mEnt cA ad h q = mEnt cA ad h2 q := by
  unfold mEnt mRow mFs
  rw [e]
theorem arrV_congr {c : ClassId} {n : Nat} {f g : Nat → Value} (e : ∀ j, j < n → f j = g j) : arrV c n f = arrV c n g := by
  have e2 : (fun j : Fin n => f j.val) = (fun j : Fin n => g j.val) := funext (fun j => e j.val j.isLt)
  unfold arrV
  rw [e2]
theorem mP_norm {D : va_G} {cA : Nat → ClassId} {ad : Nat → Int → Nat} {ids : List (Nat × Int)} {h : mH} {H : Heap} {r : Nat} {i n : Int} {f g : Int → Int} (hr : mRo r 1 n) (e : ∀ j, 0 ≤ j → j < n → f j = g j) (hP : va_P D vwCl (mW cA ad ids (rs h r i f)) H) : va_P D vwCl (mW cA ad ids (rs h r i g)) H := by
  obtain ⟨m, h1, rfl, -, -⟩ := hr
  intro k q hk
  unfold mW at hk
  rw [List.getElem?_map] at hk
  cases hi : ids[k]? with
  | none => rw [hi] at hk; cases hk
  | some w =>
    rw [hi] at hk
    cases hk
    have h2 := hP k (ad w.1 w.2, mEnt cA ad (rs h r i f) w) (by unfold mW; rw [List.getElem?_map, hi]; rfl)
    show va_at D vwCl (ad w.1 w.2, mEnt cA ad (rs h r i g) w) H
    by_cases c : w = (r, i)
    · subst c
      rw [mEnt_inl h1] at h2 ⊢
      have h3 : H[ad r i]? = some (arrV (cA 1) m (fun j => .int (Int32.ofInt (rs h r i f r i (j : Int))))) := h2
      show H[ad r i]? = some (arrV (cA 1) m (fun j => .int (Int32.ofInt (rs h r i g r i (j : Int)))))
      rw [h3, rs_same, rs_same]
      rw [arrV_congr (f := fun j => .int (Int32.ofInt (f (j : Int)))) (g := fun j => .int (Int32.ofInt (g (j : Int)))) (fun j hj => by rw [e j (by omega) (by omega)])]
    · have e2 : rs h r i g w.1 w.2 = rs h r i f w.1 w.2 := by
        have c2 : ¬ (w.1 = r ∧ w.2 = i) := fun z => c (Prod.ext z.1 z.2)
        unfold rs
        rw [if_neg c2, if_neg c2]
      rw [mEnt_congr e2]
      exact h2
theorem At.norm {F : mG → Prop} {M : mMs} {pc : Nat} {L st : List mV} {h : mH} {r : Nat} {i n : Int} {f g : Int → Int} (hr : mRo r 1 n) (e : ∀ j, 0 ≤ j → j < n → f j = g j) (k : At F M pc L st (rs h r i g)) : At F M pc L st (rs h r i f) := by
  intro G hF V H locs ls hP hS hL v1 v2
  exact k G hF V H locs ls (mP_norm hr e hP) hS hL v1 v2
theorem c7_copiesN {h : mH} {K : mH → Prop} {q0 q2 : Nat} {i0 i2 n0 n2 x1 x3 : Int} {g : Int → Int} (hq0 : mRo q0 1 n0) (hq2 : mRo q2 1 n2) (hne : q0 ≠ q2) (h1 : 0 ≤ x1 ∧ x1 + 314 ≤ n0) (h3 : 0 ≤ x3 ∧ x3 + 314 ≤ n2) (hg : ∀ j, 0 ≤ j → j < n2 → g j = if x3 ≤ j ∧ j < x3 + 314 then h q0 i0 (x1 + (j - x3)) else h q2 i2 j) (k : K (rs h q2 i2 g)) : OkV M7_copies [mR q0 i0, mI x1, mR q2 i2, mI x3] h K := by
  have key := upI (P := fun q => A7_copies_3 K q0 i0 n0 q2 i2 n2 x1 x3 q (rs h q2 i2 (cp (h q0 i0) x1 (h q2 i2) x3 q))) (n := 314) ?_ (fun q h5 h6 ih => ?_) 0 (by omega) (by omega)
  · have e : cp (h q0 i0) x1 (h q2 i2) x3 0 = h q2 i2 := by
      funext j
      unfold cp
      rw [if_neg (by omega)]
    rw [e, rs_self] at key
    exact s7_copies hq0 hq2 key
  · refine At.norm (g := g) hq2 (fun j a b => ?_) (s7_copies_3 hq0 hq2 ⟨by decide, fun _ => k, fun z => absurd (Int.le_refl _) z⟩)
    rw [hg j a b]
    rfl
  · refine s7_copies_3 hq0 hq2 ⟨by omega, fun z => by omega, fun _ => ⟨by omega, by omega, ?_⟩⟩
    rintro _ rfl
    rw [mSet_rs, rs_same, rs_rs, rs_r hne]
    have e : up (cp (h q0 i0) x1 (h q2 i2) x3 q) (x3 + q) (h q0 i0 (x1 + q)) = cp (h q0 i0) x1 (h q2 i2) x3 (q + 1) := by
      funext j
      unfold up cp
      by_cases c : j = x3 + q
      · rw [if_pos c, if_pos (by omega), c, show x1 + (x3 + q - x3) = x1 + q by omega]
      · rw [if_neg c]
        by_cases d : x3 ≤ j ∧ j < x3 + q
        · rw [if_pos d, if_pos (by omega)]
        · rw [if_neg d, if_neg (by omega)]
    rw [e]
    exact ih
/-- a whole row of 314 becomes another one's -/
theorem c7_copiesAll {h : mH} {K : mH → Prop} {q0 q2 : Nat} {i0 i2 : Int} (hq0 : mRo q0 1 314) (hq2 : mRo q2 1 314) (hne : q0 ≠ q2) {g : Int → Int} (hg : ∀ j, 0 ≤ j → j < 314 → h q0 i0 j = g j) (k : K (rs h q2 i2 g)) : OkV M7_copies [mR q0 i0, mI 0, mR q2 i2, mI 0] h K :=
  c7_copiesN hq0 hq2 hne (by omega) (by omega) (fun j a b => by rw [if_pos (by omega), show 0 + (j - 0) = j by omega, hg j a b]) k
/-! undo, images -/
section REF12
variable {h : mH} {σ : Sg}
theorem RG.to {h2 : mH} {s2 : Int → Int} (R : RG h σ) (hs : WfS (gP σ) s2) (e : ∀ r, r = 31 ∨ r = 32 ∨ r = 34 ∨ r = 35 ∨ r = 36 ∨ r = 37 ∨ r = 43 ∨ r = 44 → h2 r 0 = h r 0) (e41 : h2 41 0 = s2) (e2 : ∀ k, k = 2 ∨ k = 20 ∨ k = 21 ∨ k = 26 ∨ k = 27 → h2 30 0 k = h 30 0 k) : RG h2 (toS σ s2) := by
  refine (R.row hs).fr (fun r hr => ?_) (fun k hk => ?_)
  · by_cases c : r = 41
    · subst c; rw [e41, rs_same]
    · rw [rs_r c]; exact e r (by omega)
  · rw [rs_r (by decide)]; exact e2 k hk
theorem r_undo (R : RG h σ) {K : Int → mH → Prop} (k1 : 0 < (gU σ).1 → ∀ h2, RG h2 (toU (toS σ ((gU σ).2 ((gU σ).1 - 1))) ((gU σ).1 - 1)) → FrC h h2 → K ((gU σ).1 - 1) h2) (k0 : (gU σ).1 = 0 → ∀ h2, RG h2 σ → FrC h h2 → K (-1) h2) : OkI M7_undo [mR 30 0] h K := by
  refine s7_undo ?_
  rintro _ rfl
  have R1 := R.th2 0
  obtain ⟨r1, r2, r3, ⟨u1, u2, u3⟩, r5, r6⟩ := id R1
  rw [u1]
  refine ⟨by omega, fun z => ?_, fun z => k0 z _ R1 (frC_th2 h 0)⟩
  rintro _ rfl
  have hu := u3 ((gU σ).1 - 1) (by omega) (by omega)
  have e1 : mSet (mSet h 30 0 0 0) 30 0 26 ((gU σ).1 - 1) = rs (mSet h 30 0 0 0) 30 0 (up (mSet h 30 0 0 0 30 0) 26 ((gU σ).1 - 1)) := mSet_rs _ _ _ _ _
  rw [e1, rs_same, up_same]
  generalize hH : mSet h 30 0 0 0 = H at *
  have FH : FrC h H := hH ▸ frC_th2 h 0
  refine c7_copiesN (g := (gU σ).2 ((gU σ).1 - 1)) ro_44 ro_41 (by decide) (by omega) (by omega) (fun j a b => ?_) ?_
  · rw [if_pos (by omega), rs_r (by decide), show 314 * ((gU σ).1 - 1) + (j - 0) = 314 * ((gU σ).1 - 1) + j by omega, hu.2 j a b]
  · rw [rs_r (r' := 30) (by decide), rs_same, up_same]
    refine k1 (by omega) _ ?_ ((FH.tr (FrC.rs (by decide))).tr (FrC.rs (by decide)))
    refine ⟨(r1.fr (fun r hr => rs_r (by omega))).row hu.1, fun f a b => by rw [rs_r (by decide), rs_r (by decide)]; exact r2 f a b, ?_, ?_, ?_, ?_⟩
    · unfold RI at r3 ⊢
      rw [rs_r (by decide), rs_same, up_ne (by decide), rs_r (by decide), rs_r (by decide)]; exact r3
    · refine ⟨by rw [rs_r (by decide), rs_same, up_same]; rfl, by show 0 ≤ (gU σ).1 - 1 ∧ (gU σ).1 - 1 ≤ 20; omega, fun q a b => ?_⟩
      rw [rs_r (by decide), rs_r (by decide)]
      exact u3 q a (by have b2 : q < (gU σ).1 - 1 := b; omega)
    · unfold RT at r5 ⊢
      rw [rs_r (by decide), rs_same, up_ne (by decide), rs_r (by decide), rs_r (by decide)]; exact r5
    · unfold RF at r6 ⊢
      rw [rs_r (by decide), rs_same, up_ne (by decide), up_ne (by decide)]; exact r6
theorem r_keep (R : RG h σ) {K : Int → mH → Prop} (k : ∀ h2, RG h2 (toI σ 1 (gS σ)) → FrC h h2 → K (gS σ 310) h2) : OkI M7_keep [mR 30 0] h K := by
  refine s7_keep ?_
  rintro _ rfl
  have R1 := R.th2 0
  obtain ⟨r1, r2, r3, r4, r5, r6⟩ := id R1
  generalize hH : mSet h 30 0 0 0 = H at *
  have FH : FrC h H := hH ▸ frC_th2 h 0
  refine c7_copiesAll (g := gS σ) ro_41 ro_43 (by decide) (fun j _ _ => by rw [r1.es]) ?_
  rintro _ rfl
  rw [mSet_rs, rs_r (by decide)]
  have r1' : Rf (rs (rs H 43 0 (gS σ)) 30 0 (up (H 30 0) 27 1)) (gP σ) (gS σ) := r1.fr (fun r hr => by rw [rs_r (by omega), rs_r (by omega)])
  refine c7_many r1' (k _ ?_ ((FH.tr (FrC.rs (by decide))).tr (FrC.rs (by decide))))
  refine ⟨r1', fun f a b => by rw [rs_r (by decide), rs_r (by decide)]; exact r2 f a b, ?_, ?_, ?_, ?_⟩
  · refine ⟨by rw [rs_same, up_same]; rfl, Or.inr rfl, fun _ => ⟨r1.2.2.2, fun j a b => ?_⟩⟩
    rw [rs_r (by decide), rs_same]
    rfl
  · unfold RU at r4 ⊢
    rw [rs_same, up_ne (by decide), rs_r (by decide), rs_r (by decide)]; exact r4
  · unfold RT at r5 ⊢
    rw [rs_same, up_ne (by decide), rs_r (by decide), rs_r (by decide)]; exact r5
  · unfold RF at r6 ⊢
    rw [rs_same, up_ne (by decide), up_ne (by decide)]; exact r6
theorem r_back (R : RG h σ) {K : Int → mH → Prop} (k1 : (gI σ).1 = 1 → ∀ h2, RG h2 (toU (toS σ (gI σ).2) 0) → FrC h h2 → K ((gI σ).2 310) h2) (k0 : (gI σ).1 = 0 → ∀ h2, RG h2 σ → FrC h h2 → K (-1) h2) : OkI M7_back [mR 30 0] h K := by
  refine s7_back ?_
  rintro _ rfl
  have R1 := R.th2 0
  obtain ⟨r1, r2, ⟨i1, i2, i3⟩, ⟨u1, u2, u3⟩, r5, r6⟩ := id R1
  rw [i1]
  refine ⟨by omega, fun z => ?_, fun z => k0 z _ R1 (frC_th2 h 0)⟩
  have hi := i3 (by omega)
  generalize hH : mSet h 30 0 0 0 = H at *
  have FH : FrC h H := hH ▸ frC_th2 h 0
  refine c7_copiesAll (g := (gI σ).2) ro_43 ro_41 (by decide) (fun j a b => hi.2 j a b) ?_
  rintro _ rfl
  rw [mSet_rs, rs_r (by decide)]
  have r1' : Rf (rs (rs H 41 0 (gI σ).2) 30 0 (up (H 30 0) 26 0)) (gP σ) (gI σ).2 := (r1.row hi.1).fr (fun r hr => rs_r (by omega))
  refine c7_many r1' (k1 (by omega) _ ?_ ((FH.tr (FrC.rs (by decide))).tr (FrC.rs (by decide))))
  refine ⟨r1', fun f a b => by rw [rs_r (by decide), rs_r (by decide)]; exact r2 f a b, ?_, ?_, ?_, ?_⟩
  · refine ⟨by rw [rs_same, up_ne (by decide)]; exact i1, i2, fun w => ?_⟩
    rw [rs_r (by decide), rs_r (by decide)]
    exact i3 w
  · exact ⟨by rw [rs_same, up_same]; rfl, by show (0 : Int) ≤ 0 ∧ (0 : Int) ≤ 20; decide, fun q a b => by have b2 : q < 0 := b; omega⟩
  · unfold RT at r5 ⊢
    rw [rs_same, up_ne (by decide), rs_r (by decide), rs_r (by decide)]; exact r5
  · unfold RF at r6 ⊢
    rw [rs_same, up_ne (by decide), up_ne (by decide)]; exact r6
end REF12
