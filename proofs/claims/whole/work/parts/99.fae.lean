/-! RateOffice.factor: its contract -/
theorem m_factor {h : mH} {σ : Sg} (C : CG h σ) {K : Int → mH → Prop} {KX : String → mH → Prop} {x1 x2 : Int} (hx : mInR x1) (hx2 : mInR x2) (k0 : ¬ (0 ≤ x1 ∧ x1 < nf (gP σ)) → ∀ h2, CG h2 σ → FrM h h2 → KX xI h2) (k2 : (0 ≤ x1 ∧ x1 < nf (gP σ)) → ¬ (0 ≤ x2 ∧ x2 ≤ 4) → ∀ h2, CG h2 σ → FrM h h2 → KX xN h2) (k : (0 ≤ x1 ∧ x1 < nf (gP σ)) → (0 ≤ x2 ∧ x2 ≤ 4) → ∀ h2, CG h2 σ → FrM h h2 → K (q_factor σ x1 x2) h2) : OkX M6_factor [mR 25 0, mI x1, mI x2] h K KX := by
  have P := C.1
  have B := C.2.1
  have h4 := P.n4
  refine s6_factor (k3_hasFactor P hx (fun a b => ⟨by decide, fun _ => ⟨hx2, fun w => ⟨by omega, ?_⟩, fun w => ⟨by omega, ?_⟩, fun w => ⟨by omega, ?_⟩, fun w => k2_countClasses P B a b ?_, fun w => k2_far P B a b (fun h2 F => ?_), fun w => k2 ⟨a, b⟩ (by omega) h C (FrM.rf h)⟩, fun w => absurd w (by decide)⟩) (fun z => ⟨by decide, fun w => absurd rfl w, fun _ => k0 z h C (FrM.rf h)⟩))
  · have kk := k ⟨a, b⟩ (by omega) h C (FrM.rf h)
    unfold q_factor at kk
    rw [if_pos w] at kk
    rw [P.lv a b]; exact kk
  · have kk := k ⟨a, b⟩ (by omega) h C (FrM.rf h)
    unfold q_factor at kk
    rw [if_neg (by omega), if_pos w] at kk
    rw [P.lo a b]; exact kk
  · have kk := k ⟨a, b⟩ (by omega) h C (FrM.rf h)
    unfold q_factor at kk
    rw [if_neg (by omega), if_neg (by omega), if_pos w] at kk
    rw [P.hi a b]; exact kk
  · have kk := k ⟨a, b⟩ (by omega) h C (FrM.rf h)
    unfold q_factor at kk
    rw [if_neg (by omega), if_neg (by omega), if_neg (by omega), if_pos w] at kk
    exact kk
  · have kk := k ⟨a, b⟩ (by omega) h2 (C.q F.q) F.q.mm
    unfold q_factor at kk
    rw [if_neg (by omega), if_neg (by omega), if_neg (by omega), if_neg (by omega)] at kk
    exact kk
/-! the law's own factor: it catches -/
theorem mLs.stU {ad : Nat → Int → Nat} {nL : Nat} {L : List mV} {ls : Array Slot} {i : Nat} {w : Value} (h : lv_has ls nL ((i, w) :: (mLof ad L).filter (fun q => !(q.1 == i) && !(q.1 + 1 == i && q.2.category == 2)))) : mLs ad nL (mSt1 L i mU) ls := by
  refine ⟨h.1, h.2.1, fun j u hj hu => ?_⟩
  rcases mSt1_get L i mU j u hj hu with ⟨a, b⟩ | ⟨a, b, c⟩
  · exact absurd b hu
  · refine h.2.2 (j, mIv ad u) (List.mem_cons_of_mem _ (List.mem_filter.mpr ⟨mLof_mem.mpr ⟨u, b, hu, rfl⟩, ?_⟩))
    simp only [Bool.and_eq_true, Bool.not_eq_true', beq_eq_false_iff_ne, ne_eq, Bool.and_eq_false_iff]
    refine ⟨a, ?_⟩
    by_cases e : j + 1 = i
    · exact Or.inr fun z => c ⟨e, mIv_cat z⟩
    · exact Or.inl e
theorem xBlind {av : List Value} {D : va_G} {cA : Nat → ClassId} {ad : Nat → Int → Nat} {ids : List (Nat × Int)} {sz : Nat} {h : mH} : FrameBlind (va_Pc av (xPre D cA ad ids sz h)) := by
  rintro a U g mk ⟨q0, qm, qX⟩
  have hb := mBlind (av := av) a U g mk ⟨q0, qm⟩
  exact ⟨hb.1, hb.2, qX.same rfl⟩
theorem xFx_at {G : mG} {M : mMs} (V : mOk G M) (hX : mX (mGA G) (mGs G) (mGs G).heap) {h : mH} {H : Heap} {locs : List Loc} (hP : va_P (mGD G) vwCl (mW (mGc G) (mGad G) (mGids G) h) H) (hS : va_S (mGA G) (mGs G).heap H locs) {U : State} (hU : U.heap = H) (hW : (mGs G).WarmedH U.vm) : xPre (mGD G) (mGc G) (mGad G) (mGids G) H.size h U := by
  refine ⟨mFx_at V hP hS hU hW, ?_⟩
  rw [hU]
  exact ((hX.kept hS.2.1).narrow (mFree V hS)).warm hW
theorem xRun_go {G : mG} {M : mMs} (V : mOk G M) {K : Int → mH → Prop} {KX : String → mH → Prop} {a : Array Value} {pc : Nat} {h : mH} {st : List mV} {H : Heap} {locs : List Loc} {ls : Array Slot} {st0 : List Value}
    (hr : vx_Run G.1.1 G.1.2.1 G.1.2.2.1 G.1.2.2.2.1 (mGs G) G.2.1.1 G.2.1.2.1 G.2.1.2.2.1 G.2.1.2.2.2.1 G.2.1.2.2.2.2 H locs G.2.2.2.2.1 G.2.2.2.2.2.1 1 6 (F0 G.2.1.1 pc ls st0) (st.map (mIv (mGad G))) (mQ (mGD G) (mGc G) (mGad G) (mGids G) (fun r h => ∃ x, r = some (mI x) ∧ K x h) (va_A (mW (mGc G) (mGad G) (mGids G) h) H.size) a) (xX (mGD G) (mGc G) (mGad G) (mGids G) KX (va_A (mW (mGc G) (mGad G) (mGids G) h) H.size)) (va_A (mW (mGc G) (mGad G) (mGids G) h) H.size))
    (hS : va_S (mGA G) (mGs G).heap H locs)
    (kk : ∀ (x : Int) (h2 : mH) (H1 : Heap) (locs1 : List Loc), K x h2 → va_P (mGD G) vwCl (mW (mGc G) (mGad G) (mGids G) h2) H1 → va_S (mGA G) (mGs G).heap H1 locs1 → W G.1.1 G.1.2.1 G.1.2.2.1 G.1.2.2.2.1 (mGs G) G.2.1.1 G.2.1.2.1 G.2.1.2.2.1 G.2.1.2.2.2.1 G.2.1.2.2.2.2 H1 locs1 (G.2.2.2.2.1 + 1) (G.2.2.2.2.2.1 + 6) G.2.2.2.2.2.2 (F0 G.2.1.1 (pc + 3) ls ((mI x :: st).map (mIv (mGad G)))))
    (kx : ∀ (E : String) (h2 : mH) (H1 : Heap) (locs1 : List Loc) (q : Addr) (ce : Cell), KX E h2 → va_P (mGD G) vwCl (mW (mGc G) (mGad G) (mGids G) h2) H1 → va_S (mGA G) (mGs G).heap H1 locs1 → H1[q]? = some ce → ce.vm = .none → (mGs G).vm.findClass E = some ce.cls → vx_W G.1.1 G.1.2.1 G.1.2.2.1 G.1.2.2.2.1 (mGs G) G.2.1.1 G.2.1.2.1 G.2.1.2.2.1 G.2.1.2.2.2.1 G.2.1.2.2.2.2 H1 locs1 (G.2.2.2.2.1 + 1) (G.2.2.2.2.2.1 + 6) G.2.2.2.2.2.2 (F0 G.2.1.1 pc ls (st.map (mIv (mGad G)))) q) : mGW G H locs (F0 G.2.1.1 pc ls st0) := by
  have hfr := mFree (h := h) V hS
  have hS9 : ∀ (s0 t T' : State) (L' : List Loc), s0.heap = H → T'.heap = t.heap → (∀ q ∈ L', va_A (mW (mGc G) (mGad G) (mGids G) h) H.size q.base) → va_F (va_A (mW (mGc G) (mGad G) (mGids G) h) H.size) s0 t → va_S (mGA G) (mGs G).heap T'.heap (locs ++ L') := by
    intro s0 t T' L' h0 e1 hL' hF'
    have hsz : H.size ≤ t.heap.size := by rw [← h0]; exact hF'.1
    refine ⟨by rw [e1]; exact Nat.le_trans hS.1 hsz, fun q h1 h3 => ?_, fun q hq => ?_⟩
    · rw [e1, hF'.2 q (by rw [h0]; exact Nat.lt_of_lt_of_le h1 hS.1) (fun z => h3 (hfr q z)), h0]
      exact hS.2.1 q h1 h3
    · rcases List.mem_append.mp hq with z | z
      · exact hS.2.2 q z
      · exact hfr _ (hL' q z)
  intro T hT X
  rcases hr T hT X with ⟨v, s0, t, T', L', h0, X', hL', e1, e2, ⟨r, h2, hv, ⟨x, rfl, hK⟩, hvo, hP', hF'⟩, go⟩ | ⟨q, s0, t, T', L', E, ce, h0, X', hL', e1, e2, ⟨h2, hK, hP', hF'⟩, hce, hcv, hcl, go⟩
  · have hv : v = (some (mI x)).map (mIv (mGad G)) := by injection hv
    subst hv
    obtain ⟨t2, a1, b1⟩ := kk x h2 T'.heap (locs ++ L') hK (by rw [e1]; exact hP') (hS9 s0 t T' L' h0 e1 hL' hF') T' rfl X'
    exact ⟨t2, go t2 a1, b1⟩
  · obtain ⟨t2, a1, b1⟩ := kx E h2 T'.heap (locs ++ L') q ce hK (by rw [e1]; exact hP') (hS9 s0 t T' L' h0 e1 hL' hF') (by rw [e1]; exact hce) hcv hcl T' rfl X'
    exact ⟨t2, go.trans a1, b1⟩
