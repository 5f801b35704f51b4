/-! the law: its factor called; what each side keeps of the other; answers that belong together -/
theorem wl_ml : Cond.methodLink RL 90 yL_factor ∈ mTbl := mTbl_of 1066 (by decide +kernel) rfl
theorem wl_st : Cond.static yL_factor ∈ mTbl := mTbl_of 1067 (by decide +kernel) rfl
theorem wl_cw : Cond.codeWith yL_factor cL_factor 5 (some .int) lHh ∈ mTbl := mTbl_of 1068 (by decide +kernel) rfl
theorem wl_in : Cond.initialized RL ∈ mTbl := mTbl_of 73 (by decide +kernel) rfl
theorem mw_callF {n : Nat} {xs : Nat → Int32} {k pc pc' : Nat} {L st : List mV} {h : mH} {x1 x2 : Int} {K : Int → mH → Prop} (hk : k < 600) (hd : mDc ML_law pc (.invokestatic 90) 3 pc') (hst : Nat.ble (mCat st) 8 = true) (ok : At (lPost 0 0 K) ML_factor 0 [mR 25 0, mI x1, mI x2, mR 46 0, mU] [] h)
    (kk : ∀ x h2, K x h2 → At (LwP n xs (k + 1)) ML_law pc' L (mI x :: st) h2) : At (LwP n xs k) ML_law pc L (mR 46 0 :: mI x2 :: mI x1 :: mR 25 0 :: st) h := by
  obtain ⟨hd, rfl⟩ := hd
  intro G hF V H locs ls hP hS hL v1 v2
  have htr := hF.2.2.1
  have hX := hF.2.2.2.1
  have hrm := hF.room hk
  have hR := hF.1.2.1
  have hvs : mVs (mGids G) [mR 25 0, mI x1, mI x2, mR 46 0] := mVs.cons (v2 _ (List.mem_cons_of_mem _ (List.mem_cons_of_mem _ (List.mem_cons_of_mem _ List.mem_cons_self)))) (mVs.cons trivial (mVs.cons trivial (mVs.cons (v2 _ List.mem_cons_self) (fun _ z => by cases z))))
  have hgood : GoodIn mTbl (va_wsS RL 90 yL_factor (Cond.codeWith yL_factor cL_factor 5 (some .int) lHh :: mTbl)) := mTbl_good (by
    intro w hw
    unfold va_wsS at hw
    simp only [List.cons_append, List.nil_append, List.mem_cons] at hw
    rcases hw with rfl | rfl | rfl | rfl | hw
    · exact wl_ml
    · exact wl_st
    · exact wl_in
    · exact wl_cw
    · exact hw)
  have hfr := mFree (h := h) V hS
  have hr := vx_runSW (cells := G.2.2.2.2.1) (slots := G.2.2.2.2.2.1) (below := G.2.1.2.2.1) (meth := G.2.1.2.2.2.1) (e := G.1.2.2.1) (locs := locs) (H := H) (R := G.1.2.2.2.1) (As := [mR 25 0, mI x1, mI x2, mR 46 0].map (mIv (mGad G))) (rest := st.map (mIv (mGad G))) (g := F0 G.2.1.1 pc ls ((mR 46 0 :: mI x2 :: mI x1 :: mR 25 0 :: st).map (mIv (mGad G)))) V.1 (lf_met ok G.1.2.1 (mGD G) (mGc G) (mGad G) (mGids G) H.size htr V.2.2.2.1 hvs)
    (vx_cwSW 4 V.1.2.2.2.2 hgood rfl rfl rfl (by decide +kernel) ⟨by rw [hR]; decide, by rw [hR]; decide⟩)
    ⟨xBlind, fun U hU hW => ⟨rfl, xFx_at V hX hP hS hU hW⟩⟩ rfl rfl hL.1 rfl (lv_room (by rw [mCat_sum]; exact Nat.le_of_ble_eq_true hst)) hd hrm
  intro T hT X
  obtain ⟨v, s0, t, T', L', h0, X', hL', e1, e2, ⟨r, h2, hv, ⟨x, rfl, hK⟩, hvo, hP', hF'⟩, go⟩ := hr T hT X
  have hv : v = (some (mI x)).map (mIv (mGad G)) := by injection hv
  subst hv
  have hsz : H.size ≤ t.heap.size := by rw [← h0]; exact hF'.1
  have hS' : va_S (mGA G) (mGs G).heap T'.heap (locs ++ L') := by
    refine ⟨by rw [e1]; exact Nat.le_trans hS.1 hsz, fun q h1 h3 => ?_, fun q hq => ?_⟩
    · rw [e1, hF'.2 q (by rw [h0]; exact Nat.lt_of_lt_of_le h1 hS.1) (fun z => h3 (hfr q z)), h0]
      exact hS.2.1 q h1 h3
    · rcases List.mem_append.mp hq with z | z
      · exact hS.2.2 q z
      · exact hfr _ (hL' q z)
  obtain ⟨t2, a1, b1⟩ := kk x h2 hK _ hF.up (mUp_ok V hrm) T'.heap (locs ++ L') ls (by rw [e1]; exact hP') hS' hL v1 (mVs.cons trivial (fun w hw => v2 w (List.mem_cons_of_mem _ (List.mem_cons_of_mem _ (List.mem_cons_of_mem _ (List.mem_cons_of_mem _ hw)))))) T' rfl X'
  exact ⟨t2, go t2 a1, b1⟩
theorem CG.lo {h h2 : mH} {σ : Sg} (C : CG h σ) (F : ∀ r, r < 30 → ∀ i, h2 r i = h r i) : CG h2 σ := by
  obtain ⟨c1, c2, ⟨i1, i2, i3⟩, ⟨u0, u1, u2, u3⟩, ⟨t1, t2, t3⟩, c6⟩ := C
  have e25 : h2 25 0 = h 25 0 := F 25 (by decide) 0
  have e26 : h2 26 0 = h 26 0 := F 26 (by decide) 0
  have hB : ∀ (b : Int) (p : Pn) (s : Int → Int), Bk h b p s → Bk h2 b p s := fun b p s B => B.fr (fun r _ h6 => F r (by omega) b)
  refine ⟨c1.fr (fun r _ h6 => F r (by omega) 0), hB _ _ _ c2, ?_, ?_, ?_, ?_⟩
  · unfold CI; rw [e25]; exact ⟨i1, i2, fun z => hB _ _ _ (i3 z)⟩
  · unfold CU; rw [e25]; exact ⟨u0, u1, u2, fun k a b => hB _ _ _ (u3 k a b)⟩
  · unfold CT; rw [e25, e26]; exact ⟨t1, t2, t3⟩
  · unfold CF; rw [e25]; exact c6
theorem CG.frC {h h2 : mH} {σ : Sg} (C : CG h σ) (F : FrC h h2) : CG h2 σ := C.lo (fun r hr i => F r (Or.inl hr) i)
theorem RG.frM {h h2 : mH} {σ : Sg} (R : RG h σ) (F : FrM h h2) : RG h2 σ := R.fr (fun r hr => F r (by omega) 0) (fun k _ => by rw [F 30 (by decide) 0])
/-- an answer and the state behind it -/
def P1 (v0 : Int) (s0 : Sg) (v : Int) (s : Sg) : Prop := v = v0 ∧ s = s0
def P2 (c : Prop) (v1 : Int) (s1 : Sg) (v0 : Int) (s0 : Sg) (v : Int) (s : Sg) : Prop := (c ∧ v = v1 ∧ s = s1) ∨ (¬ c ∧ v = v0 ∧ s = s0)
def P3 (c d : Prop) (v1 : Int) (s1 : Sg) (v2 : Int) (s2 : Sg) (v0 : Int) (s0 : Sg) (v : Int) (s : Sg) : Prop := ((c ∧ d) ∧ v = v1 ∧ s = s1) ∨ ((c ∧ ¬ d) ∧ v = v2 ∧ s = s2) ∨ (¬ c ∧ v = v0 ∧ s = s0)
theorem P1.fn {v0 : Int} {s0 : Sg} {v w : Int} {s t : Sg} (a : P1 v0 s0 v s) (b : P1 v0 s0 w t) : w = v ∧ t = s := ⟨b.1.trans a.1.symm, b.2.trans a.2.symm⟩
theorem P2.fn {c : Prop} {v1 v0 : Int} {s1 s0 : Sg} {v w : Int} {s t : Sg} (a : P2 c v1 s1 v0 s0 v s) (b : P2 c v1 s1 v0 s0 w t) : w = v ∧ t = s := by
  rcases a with ⟨a1, a2, a3⟩ | ⟨a1, a2, a3⟩
  · rcases b with ⟨b1, b2, b3⟩ | ⟨b1, b2, b3⟩
    · exact ⟨b2.trans a2.symm, b3.trans a3.symm⟩
    · exact absurd a1 b1
  · rcases b with ⟨b1, b2, b3⟩ | ⟨b1, b2, b3⟩
    · exact absurd b1 a1
    · exact ⟨b2.trans a2.symm, b3.trans a3.symm⟩
theorem P3.fn {c d : Prop} {v1 v2 v0 : Int} {s1 s2 s0 : Sg} {v w : Int} {s t : Sg} (a : P3 c d v1 s1 v2 s2 v0 s0 v s) (b : P3 c d v1 s1 v2 s2 v0 s0 w t) : w = v ∧ t = s := by
  rcases a with ⟨a1, a2, a3⟩ | ⟨a1, a2, a3⟩ | ⟨a1, a2, a3⟩
  · rcases b with ⟨b1, b2, b3⟩ | ⟨b1, b2, b3⟩ | ⟨b1, b2, b3⟩
    · exact ⟨b2.trans a2.symm, b3.trans a3.symm⟩
    · exact absurd a1.2 b1.2
    · exact absurd a1.1 b1
  · rcases b with ⟨b1, b2, b3⟩ | ⟨b1, b2, b3⟩ | ⟨b1, b2, b3⟩
    · exact absurd b1.2 a1.2
    · exact ⟨b2.trans a2.symm, b3.trans a3.symm⟩
    · exact absurd a1.1 b1
  · rcases b with ⟨b1, b2, b3⟩ | ⟨b1, b2, b3⟩ | ⟨b1, b2, b3⟩
    · exact absurd b1.1 a1
    · exact absurd b1.1 a1
    · exact ⟨b2.trans a2.symm, b3.trans a3.symm⟩
def KC (P : Int → Sg → Prop) (h : mH) (v : Int) (h2 : mH) : Prop := ∃ s, P v s ∧ CG h2 s ∧ FrM h h2
def KR (P : Int → Sg → Prop) (h : mH) (v : Int) (h2 : mH) : Prop := ∃ s, P v s ∧ RG h2 s ∧ FrC h h2
