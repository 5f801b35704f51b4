/-! the class: what its cells hold -/
def pkL (s : Int → Int) (r : Int) : Int := s (7 * r + 3 + 0) + 8 * s (7 * r + 3 + 1) + 64 * s (7 * r + 3 + 2) + 512 * s (7 * r + 3 + 3)
/-- the joins of book b -/
def BJ (h : mH) (b : Int) (p : Pn) (s : Int → Int) : Prop := ∀ f, 0 ≤ f → f < nf p → ∀ l, 0 ≤ l → l < 8 → jb (h 1 b 6) (8 * f + l) = jb (s (304 + f)) l
def BN (h : mH) (b : Int) (s : Int → Int) : Prop := h 1 b 0 = s 310 ∧ h 1 b 1 = s 308 ∧ h 1 b 2 = s 309 ∧ h 1 b 3 = s 311 ∧ h 1 b 4 = s 312 ∧ h 1 b 5 = s 313
def BR (h : mH) (b : Int) (s : Int → Int) : Prop := ∀ r, 0 ≤ r → r < s 310 → h 2 b r = s (7 * r + 0) ∧ h 3 b r = s (7 * r + 1) ∧ h 4 b r = s (7 * r + 2) ∧ h 5 b r = pkL s r
def BL (h : mH) (b : Int) (p : Pn) (s : Int → Int) : Prop := ∀ f, 0 ≤ f → f < nf p → ∀ l, 0 ≤ l → l < lv p f → h 6 b (8 * f + l) = s (280 + 6 * f + l)
/-- book b is s -/
def Bk (h : mH) (b : Int) (p : Pn) (s : Int → Int) : Prop := BN h b s ∧ BJ h b p s ∧ BR h b s ∧ BL h b p s ∧ WfP p ∧ WfS p s
def Pl (h : mH) (q : Int) (p : Pn) (nm : Int → Int) : Prop := (h 7 q 0 = nf p ∧ h 7 q 1 = bd p ∧ h 7 q 2 = sd p) ∧ (∀ f, 0 ≤ f → f < nf p → h 8 q f = nm f ∧ h 9 q f = lv p f ∧ h 10 q f = lo p f ∧ h 11 q f = hi p f ∧ mInR (nm f)) ∧ WfP p
section CLS1
variable {h h2 : mH} {b : Int} {p : Pn} {s nm : Int → Int}
theorem BJ.fr (B : BJ h b p s) (e : h2 1 b = h 1 b) : BJ h2 b p s := by unfold BJ; rw [e]; exact B
theorem Bk.fr (B : Bk h b p s) (e : ∀ r, 1 ≤ r → r ≤ 6 → h2 r b = h r b) : Bk h2 b p s := by
  obtain ⟨b1, b2, b3, b4, b5, b6⟩ := B
  refine ⟨?_, ?_, ?_, ?_, b5, b6⟩
  · unfold BN; rw [e 1 (by decide) (by decide)]; exact b1
  · exact b2.fr (e 1 (by decide) (by decide))
  · unfold BR; rw [e 2 (by decide) (by decide), e 3 (by decide) (by decide), e 4 (by decide) (by decide), e 5 (by decide) (by decide)]; exact b3
  · unfold BL; rw [e 6 (by decide) (by decide)]; exact b4
theorem Pl.fr {q : Int} (P : Pl h q p nm) (e : ∀ r, 7 ≤ r → r ≤ 11 → h2 r q = h r q) : Pl h2 q p nm := by
  unfold Pl
  rw [e 7 (by decide) (by decide), e 8 (by decide) (by decide), e 9 (by decide) (by decide), e 10 (by decide) (by decide), e 11 (by decide) (by decide)]
  exact P
theorem Bk.m (B : Bk h b p s) : h 1 b 0 = s 310 := B.1.1
theorem Bk.wf (B : Bk h b p s) : WfS p s := B.2.2.2.2.2
theorem Bk.wp (B : Bk h b p s) : WfP p := B.2.2.2.2.1
theorem Bk.m40 (B : Bk h b p s) : 0 ≤ s 310 ∧ s 310 ≤ 40 := B.wf.1.1
theorem Bk.j (B : Bk h b p s) : BJ h b p s := B.2.1
theorem Bk.rk (B : Bk h b p s) {r : Int} (h0 : 0 ≤ r) (h1 : r < s 310) : h 2 b r = s (7 * r + 0) ∧ h 3 b r = s (7 * r + 1) ∧ h 4 b r = s (7 * r + 2) ∧ h 5 b r = pkL s r := B.2.2.1 r h0 h1
theorem Bk.l (B : Bk h b p s) {f l : Int} (h0 : 0 ≤ f) (h1 : f < nf p) (h2 : 0 ≤ l) (h3 : l < lv p f) : h 6 b (8 * f + l) = s (280 + 6 * f + l) := B.2.2.2.1 f h0 h1 l h2 h3
theorem Pl.w {q : Int} (P : Pl h q p nm) : WfP p := P.2.2
theorem Pl.n4 {q : Int} (P : Pl h q p nm) : 0 ≤ nf p ∧ nf p ≤ 4 := P.2.2.1.1
theorem Pl.pf {q : Int} (P : Pl h q p nm) {f : Int} (h0 : 0 ≤ f) (h1 : f < nf p) : (1 ≤ lv p f ∧ lv p f ≤ 6) ∧ (1 ≤ lo p f ∧ lo p f ≤ 10000) ∧ (10000 ≤ hi p f ∧ hi p f ≤ 99999) := P.2.2.2 f h0 h1
theorem Pl.n {q : Int} (P : Pl h q p nm) : h 7 q 0 = nf p := P.1.1
theorem Pl.lv {q : Int} (P : Pl h q p nm) {f : Int} (h0 : 0 ≤ f) (h1 : f < nf p) : h 9 q f = lv p f := (P.2.1 f h0 h1).2.1
theorem Pl.lo {q : Int} (P : Pl h q p nm) {f : Int} (h0 : 0 ≤ f) (h1 : f < nf p) : h 10 q f = lo p f := (P.2.1 f h0 h1).2.2.1
theorem Pl.hi {q : Int} (P : Pl h q p nm) {f : Int} (h0 : 0 ≤ f) (h1 : f < nf p) : h 11 q f = hi p f := (P.2.1 f h0 h1).2.2.2.1
/-! small helps -/
theorem k_slot {K : Int → mH → Prop} {x0 x1 : Int} (h0 : 0 ≤ x0 ∧ x0 < 4) (h1 : 0 ≤ x1 ∧ x1 < 8) (k : K (8 * x0 + x1) h) : OkI M6_slot [mI x0, mI x1] h K := s6_slot (by rw [mSlot h0.1 h0.2 h1.1 h1.2]; exact k)
theorem dg_shr {x f : Int} (h0 : 0 ≤ x) (h1 : x < 2147483648) (h2 : 0 ≤ f) (h3 : f < 10) : mAnd (mShr x (f * 3)) 7 = dg x f := by
  rw [mShr_div h0 h1 (by omega) (by omega), show (7 : Int) = 2 ^ 3 - 1 from rfl, mAnd_mask 3 (by decide)]
  unfold dg
  rw [show (f * 3).toNat = 3 * f.toNat by omega, Int.pow_mul]
  rfl
theorem k_levelIn {K : Int → mH → Prop} {x0 x1 : Int} (h0 : 0 ≤ x0 ∧ x0 < 2147483648) (h1 : 0 ≤ x1 ∧ x1 < 10) (k : K (dg x0 x1) h) : OkI M6_levelIn [mI x0, mI x1] h K := s6_levelIn (s6_slotShift (by rw [dg_shr h0.1 h0.2 h1.1 h1.2]; exact k))
theorem k_within {K : Int → mH → Prop} {x0 x1 x2 : Int} (h0 : mInR x0) (h1 : mInR x1) (h2 : mInR x2) (kt : x1 ≤ x0 → x0 ≤ x2 → K 1 h) (kf : ¬ (x1 ≤ x0 ∧ x0 ≤ x2) → K 0 h) : OkI M6_within [mI x0, mI x1, mI x2] h K := s6_within ⟨⟨h0, h1⟩, fun z => kf (by omega), fun z => ⟨⟨h0, h2⟩, fun z2 => kf (by omega), fun z2 => kt (by omega) (by omega)⟩⟩
theorem k_clamp {K : Int → mH → Prop} {x0 x2 x3 : Int} (h0 : mInL x0) (h2 : mInR x2) (h3 : mInR x3) (hle : x2 ≤ x3) (k : K (wi x0 x2 x3) h) : OkI M6_clamp [mJ x0, mI x2, mI x3] h K := s6_clamp ⟨h2, h3, ⟨by omega, h0⟩, ⟨by omega, by omega⟩, by rw [wi_mm hle]; exact k⟩
theorem pkL_dg (hp : WfP p) (hs : WfS p s) {r f : Int} (h0 : 0 ≤ r) (h1 : r < s 310) (h2 : 0 ≤ f) (h3 : f < 4) : dg (pkL s r) f = s (7 * r + 3 + f) := by
  have hr := (hs.2.1 r h0 h1).2.2.2
  have hd : ∀ g, 0 ≤ g → g < 4 → 0 ≤ s (7 * r + 3 + g) ∧ s (7 * r + 3 + g) < 8 := by
    intro g a c
    have h4 := hr g a c
    by_cases e : g < nf p
    · have h5 := h4.2.1 e
      have h6 := (hp.2 g a e).1
      omega
    · have h5 := h4.2.2 (by omega)
      omega
  have d0 := hd 0 (by decide) (by decide)
  have d1 := hd 1 (by decide) (by decide)
  have d2 := hd 2 (by decide) (by decide)
  have d3 := hd 3 (by decide) (by decide)
  have : f = 0 ∨ f = 1 ∨ f = 2 ∨ f = 3 := by omega
  unfold dg pkL
  rcases this with rfl | rfl | rfl | rfl
  · show (_ : Int) / 1 % 8 = _
    omega
  · show (_ : Int) / 8 % 8 = _
    omega
  · show (_ : Int) / 64 % 8 = _
    omega
  · show (_ : Int) / 512 % 8 = _
    omega
theorem pkL_bd (hp : WfP p) (hs : WfS p s) {r : Int} (h0 : 0 ≤ r) (h1 : r < s 310) : 0 ≤ pkL s r ∧ pkL s r < 4096 := by
  have hr := (hs.2.1 r h0 h1).2.2.2
  have hd : ∀ g, 0 ≤ g → g < 4 → 0 ≤ s (7 * r + 3 + g) ∧ s (7 * r + 3 + g) < 8 := by
    intro g a c
    have h4 := hr g a c
    by_cases e : g < nf p
    · have h5 := h4.2.1 e
      have h6 := (hp.2 g a e).1
      omega
    · have h5 := h4.2.2 (by omega)
      omega
  have d0 := hd 0 (by decide) (by decide)
  have d1 := hd 1 (by decide) (by decide)
  have d2 := hd 2 (by decide) (by decide)
  have d3 := hd 3 (by decide) (by decide)
  unfold pkL
  omega
/-! books -/
theorem k0_hasRisk (B : Bk h b p s) {K : Int → mH → Prop} {x1 : Int} (hx : mInR x1) (kt : 0 ≤ x1 → x1 < s 310 → K 1 h) (kf : ¬ (0 ≤ x1 ∧ x1 < s 310) → K 0 h) : OkI M0_hasRisk [mR 1 b, mI x1] h K := by
  have hm := B.m40
  refine s0_hasRisk ?_
  rw [B.m]
  exact ⟨hx, fun z => kf (by omega), fun z => ⟨by omega, fun z2 => kf (by omega), fun z2 => kt (by omega) (by omega)⟩⟩
theorem k0_isJoined (B : BJ h b p s) (hn : nf p ≤ 4) {K : Int → mH → Prop} {f l : Int} (h0 : 0 ≤ f) (h1 : f < nf p) (h2 : 0 ≤ l) (h3 : l < 8) (kt : jb (s (304 + f)) l = true → K 1 h) (kf : jb (s (304 + f)) l = false → K 0 h) : OkI M0_isJoined [mR 1 b, mI f, mI l] h K := by
  refine s0_isJoined (k_slot (by omega) (by omega) ?_)
  rw [jb_01 (by omega) (by omega), B f h0 h1 l h2 h3]
  cases e : jb (s (304 + f)) l
  · exact ⟨by decide, fun _ => kf e, fun z => absurd rfl z⟩
  · exact ⟨by decide, fun z => absurd z (by decide), fun _ => kt e⟩
theorem k0_startsClass (B : BJ h b p s) (hn : nf p ≤ 4) {K : Int → mH → Prop} {f l : Int} (h0 : 0 ≤ f) (h1 : f < nf p) (h2 : 0 ≤ l) (h3 : l < 8) (kt : fs s f l = l → K 1 h) (kf : ¬ fs s f l = l → K 0 h) : OkI M0_startsClass [mR 1 b, mI f, mI l] h K := by
  have hs := fs_start (s := s) (f := f) h2
  refine s0_startsClass ⟨by omega, fun z => kt (hs.mpr (Or.inl (by omega))), fun z => k0_isJoined B hn h0 h1 (by omega) (by omega) (fun e => ⟨by decide, fun _ => kf (fun w => ?_), fun w => absurd w (by decide)⟩) (fun e => ⟨by decide, fun w => absurd rfl w, fun _ => kt (hs.mpr (Or.inr e))⟩)⟩
  rcases hs.mp w with w | w
  · omega
  · rw [e] at w; cases w
theorem k0_firstOf (B : BJ h b p s) (hn : nf p ≤ 4) {K : Int → mH → Prop} {f l : Int} (h0 : 0 ≤ f) (h1 : f < nf p) (h2 : 0 ≤ l) (h3 : l < 6) (k : K (fs s f l) h) : OkI M0_firstOf [mR 1 b, mI f, mI l] h K := by
  have key : ∀ n : Nat, ∀ x3 x4 : Int, x3 = n → x3 + x4 = l → 0 ≤ x4 → fs s f x3 = fs s f l → A0_firstOf_5 K b f l x3 x4 h := by
    intro n
    induction n with
    | zero =>
      intro x3 x4 e1 e2 e4 e3
      rw [← e3, e1, show fs s f ((0 : Nat) : Int) = 0 from rfl] at k
      rw [e1]
      exact s0_firstOf_5 ⟨by omega, fun _ => k, fun _ => ⟨by decide, fun _ => k, fun z => absurd (Int.le_refl _) z⟩⟩
    | succ n ih =>
      intro x3 x4 e1 e2 e4 e3
      have hs := fs_s (s := s) (f := f) (l := x3 - 1) (by omega)
      rw [show x3 - 1 + 1 = x3 by omega] at hs
      refine s0_firstOf_5 ⟨by omega, fun z => by omega, fun _ => ⟨by omega, fun z => by omega, fun _ => k0_isJoined B hn h0 h1 (by omega) (by omega) (fun e => ⟨by decide, fun w => absurd w (by decide), fun _ => ih _ _ (by omega) (by omega) (by omega) ?_⟩) (fun e => ⟨by decide, fun _ => ?_, fun w => absurd rfl w⟩)⟩⟩
      · rw [if_pos e] at hs
        rw [← e3, hs, show x3 + -1 = x3 - 1 by omega]
      · rw [e] at hs
        rw [← e3, hs] at k
        exact k
  exact s0_firstOf (key l.toNat l 0 (by omega) (by omega) (by omega) rfl)
theorem k0_lastOf (B : BJ h b p s) (hp : WfP p) (hj : JOk p s) {K : Int → mH → Prop} {f l : Int} (h0 : 0 ≤ f) (h1 : f < nf p) (h2 : 0 ≤ l) (h3 : l < lv p f) (k : K (la s f l) h) : OkI M0_lastOf [mR 1 b, mI f, mI l] h K := by
  have hn := hp.1.1
  have hb := (hp.2 f h0 h1).1
  have key : ∀ n : Nat, ∀ x3 x4 : Int, x3 + n = 6 → x4 ≤ x3 → 0 ≤ x4 → x3 < lv p f → la s f x3 = la s f l → A0_lastOf_5 K b f l x3 x4 h := by
    intro n
    induction n with
    | zero => intro x3 x4 e1 e2 e3 e4; omega
    | succ n ih =>
      intro x3 x4 e1 e2 e3 e4 e5
      have hs := la_s hp hj h0 h1 (l := x3) (by omega) e4
      have nojb : jb (s (304 + f)) x3 = false → K x3 h := by
        intro e
        rw [e] at hs
        rw [← e5, hs] at k
        exact k
      refine s0_lastOf_5 ⟨by omega, fun z => by omega, fun _ => ⟨by omega, fun z => nojb ?_, fun _ => k0_isJoined B hn.2 h0 h1 (by omega) (by omega) (fun e => ⟨by decide, fun w => absurd w (by decide), fun _ => ?_⟩) (fun e => ⟨by decide, fun _ => nojb e, fun w => absurd rfl w⟩)⟩⟩
      · cases e : jb (s (304 + f)) x3
        · rfl
        · have := hj f h0 h1 x3 (by omega) (by omega) e
          omega
      · have := hj f h0 h1 x3 (by omega) (by omega) e
        rw [if_pos e] at hs
        exact ih _ _ (by omega) (by omega) (by omega) (by omega) (by rw [← e5, hs])
  exact s0_lastOf (key (6 - l).toNat l 0 (by omega) (by omega) (by omega) h3 rfl)
/-- a row of relativities with a stretch set -/
def stR (g : Int → Int) (f a q v : Int) : Int → Int := fun j => if 8 * f + a ≤ j ∧ j < 8 * f + q then v else g j
theorem k0_setClass (B : BJ h b p s) (hp : WfP p) (hj : JOk p s) {K : mH → Prop} {f l v : Int} (h0 : 0 ≤ f) (h1 : f < nf p) (h2 : 0 ≤ l) (h3 : l < lv p f) (k : K (rs h 6 b (stR (h 6 b) f (fs s f l) (la s f l + 1) v))) : OkV M0_setClass [mR 1 b, mI f, mI l, mI v] h K := by
  have hn := hp.1.1
  have hb := (hp.2 f h0 h1).1
  have hl := la_bd hp hj h0 h1 h2 h3
  have hf := fs_le (s := s) (f := f) h2
  refine s0_setClass (k0_lastOf B hp hj h0 h1 h2 h3 (k0_firstOf B hn.2 h0 h1 h2 (by omega) ?_))
  have key := upI (P := fun q => fs s f l ≤ q → A0_setClass_16 K b f l v (la s f l) q (rs h 6 b (stR (h 6 b) f (fs s f l) q v))) (n := la s f l + 1) (fun _ => ?_) (fun q h5 h6 ih hq => ?_) (fs s f l) hf.1 (by omega) (Int.le_refl _)
  · have e : stR (h 6 b) f (fs s f l) (fs s f l) v = h 6 b := by
      funext j
      unfold stR
      rw [if_neg (by omega)]
    rw [e, rs_self] at key
    exact key
  · exact s0_setClass_16 ⟨by omega, fun _ => k, fun z => absurd (by omega) z⟩
  · refine s0_setClass_16 ⟨by omega, fun z => by omega, fun _ => k_slot (by omega) (by omega) ⟨by omega, ?_⟩⟩
    rintro _ rfl
    rw [mSet_rs, rs_same, rs_rs]
    have e : up (stR (h 6 b) f (fs s f l) q v) (8 * f + q) v = stR (h 6 b) f (fs s f l) (q + 1) v := by
      funext j
      unfold up stR
      by_cases c : j = 8 * f + q
      · rw [if_pos c, if_pos (by omega)]
      · rw [if_neg c]
        by_cases d : 8 * f + fs s f l ≤ j ∧ j < 8 * f + q
        · rw [if_pos d, if_pos (by omega)]
        · rw [if_neg d, if_neg (by omega)]
    rw [e]
    exact ih (by omega)
theorem k0_sum (B : Bk h b p s) {K : Int → mH → Prop} {q : Nat} {c : Int} (hq : mRo q 1 40) (hb : ∀ r, 0 ≤ r → r < s 310 → h q b r = s (7 * r + c) ∧ mInR (s (7 * r + c))) (k : K (sm (fun r => s (7 * r + c)) (s 310)) h) : OkJ M0_sumOf [mR 1 b, mR q b] h K := by
  have hm := B.m40
  refine s0_sumOf hq (upI (P := fun r => A0_sumOf_5 K b q b 40 (sm (fun r => s (7 * r + c)) r) r h) (n := s 310) ?_ (fun r h5 h6 ih => ?_) 0 (by omega) (by omega))
  · refine s0_sumOf_5 hq ?_
    rw [B.m]
    exact ⟨by omega, fun _ => k, fun z => absurd (Int.le_refl _) z⟩
  · rw [sm_s _ h5] at ih
    have h7 := hb r h5 h6
    refine s0_sumOf_5 hq ?_
    rw [B.m, h7.1]
    exact ⟨by omega, fun z => by omega, fun _ => ⟨by omega, fun z => by omega, fun _ => ⟨by omega, h7.2, ih⟩⟩⟩
theorem k0_sumC (B : Bk h b p s) {K : Int → mH → Prop} (k : K (whl s) h) : OkJ M0_sumOf [mR 1 b, mR 3 b] h K := k0_sum B ro_3 (c := 1) (fun r a c => ⟨(B.rk a c).2.1, by have := (B.wf.2.1 r a c).2.1; omega⟩) k
theorem k0_sumO (B : Bk h b p s) {K : Int → mH → Prop} (k : K (sm (fun r => s (7 * r + 2)) (s 310)) h) : OkJ M0_sumOf [mR 1 b, mR 4 b] h K := k0_sum B ro_4 (c := 2) (fun r a c => ⟨(B.rk a c).2.2.1, by have := (B.wf.2.1 r a c).2.2.1; omega⟩) k
theorem k0_sumE (B : Bk h b p s) {K : Int → mH → Prop} (k : K (sm (fun r => s (7 * r + 0)) (s 310)) h) : OkJ M0_sumOf [mR 1 b, mR 2 b] h K := k0_sum B ro_2 (c := 0) (fun r a c => ⟨(B.rk a c).1, by have := (B.wf.2.1 r a c).1; omega⟩) k
theorem k0_countFleets (B : Bk h b p s) {K : Int → mH → Prop} (k : K (sm (fun r => if s (7 * r + 0) < s 312 then 0 else 1) (s 310)) h) : OkI M0_countFleets [mR 1 b] h K := by
  have hm := B.m40
  refine s0_countFleets (upI (P := fun r => A0_countFleets_4 K b (sm (fun r => if s (7 * r + 0) < s 312 then 0 else 1) r) r h) (n := s 310) ?_ (fun r h5 h6 ih => ?_) 0 (by omega) (by omega))
  · refine s0_countFleets_4 ?_
    rw [B.m]
    exact ⟨by omega, fun _ => k, fun z => absurd (Int.le_refl _) z⟩
  · rw [sm_s _ h5] at ih
    have h7 := (B.rk h5 h6).1
    have h8 := (B.wf.2.1 r h5 h6).1
    have h9 := B.wf.1.2.2.2.2.1
    refine s0_countFleets_4 ?_
    rw [B.m, h7, B.1.2.2.2.2.1]
    refine ⟨by omega, fun z => by omega, fun _ => ⟨by omega, ⟨by omega, by omega⟩, fun z => ?_, fun z => ?_⟩⟩
    · rw [if_pos z, Int.add_zero] at ih; exact ih
    · rw [if_neg z] at ih; exact ih
end CLS1
