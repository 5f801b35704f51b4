/-! the class: plans, draws, kinds -/
theorem mAndL_31 (x : Int) : mAndL x 2147483647 = x % 2147483648 := by
  have e : (Int64.ofInt x &&& Int64.ofInt 2147483647).toBitVec.toNat = (x % 18446744073709551616).toNat % 2147483648 := by
    rw [Int64.toBitVec_and, BitVec.toNat_and, Int64.toBitVec_ofInt, BitVec.toNat_ofInt, show (Int64.ofInt 2147483647).toBitVec.toNat = 2 ^ 31 - 1 from by decide, Nat.and_two_pow_sub_one_eq_mod]
    rfl
  show (Int64.ofInt x &&& Int64.ofInt 2147483647).toBitVec.toInt = _
  rw [BitVec.toInt_eq_toNat_of_lt (by rw [e]; omega), e]
  omega
theorem mShrL_16 {x : Int} (h0 : 0 ≤ x) (h1 : x < 2147483648) : mShrL x 16 = x / 65536 := by
  have e0 : ((Int32.ofInt 16).toInt64 &&& 63 : Int64).toBitVec.smod 64 = 16#64 := by decide
  show (Int64.ofInt x >>> ((Int32.ofInt 16).toInt64 &&& 63)).toBitVec.toInt = _
  rw [Int64.toBitVec_shiftRight, e0]
  show ((Int64.ofInt x).toBitVec.sshiftRight 16).toInt = _
  rw [BitVec.toInt_sshiftRight]
  have e1 : (Int64.ofInt x).toBitVec.toInt = x := Int64.toInt_ofInt_of_le (by show (-9223372036854775808 : Int) ≤ x; omega) (by show x < (9223372036854775808 : Int); omega)
  rw [e1, Int.shiftRight_eq_div_pow]
  rfl
section CLS10
variable {h h2 : mH} {b : Int} {p : Pn} {s nm : Int → Int}
theorem k3_find {q : Int} (P : Pl h q p nm) {K : Int → mH → Prop} {x : Int} (hx : mInR x) (k : K (if ls (fun f => decide (nm f = x)) (nf p) = -2 then -1 else ls (fun f => decide (nm f = x)) (nf p)) h) : OkI M3_find [mR 7 q, mI x] h K := by
  have h4 := P.n4
  refine s3_find (upI (P := fun f => (∀ j, 0 ≤ j → j < f → decide (nm j = x) = false) → A3_find_2 K q x f h) (n := nf p) (fun hj => ?_) (fun f h5 h6 ih hj => ?_) 0 (by omega) (by omega) (fun j a c => by omega))
  · rw [ls_no hj, if_pos rfl] at k
    refine s3_find_2 ?_
    rw [P.n]
    exact ⟨by omega, fun _ => k, fun z => absurd (Int.le_refl _) z⟩
  · have he := P.2.1 f h5 h6
    refine s3_find_2 ?_
    rw [P.n, he.1]
    refine ⟨by omega, fun z => by omega, fun _ => ⟨by omega, ⟨he.2.2.2.2, hx⟩, fun z => ih (fun j a c => ?_), fun z => ?_⟩⟩
    · by_cases d : j = f
      · rw [d]; exact decide_eq_false z
      · exact hj j a (by omega)
    · rw [ls_yes h5 h6 (decide_eq_true z) hj, if_neg (by omega)] at k
      exact k
theorem k3_hasFactor {q : Int} (P : Pl h q p nm) {K : Int → mH → Prop} {x : Int} (hx : mInR x) (kt : 0 ≤ x → x < nf p → K 1 h) (kf : ¬ (0 ≤ x ∧ x < nf p) → K 0 h) : OkI M3_hasFactor [mR 7 q, mI x] h K := by
  have h4 := P.n4
  refine s3_hasFactor ?_
  rw [P.n]
  exact ⟨hx, fun z => kf (by omega), fun z => ⟨by omega, fun z2 => kf (by omega), fun z2 => kt (by omega) (by omega)⟩⟩
theorem k3_hasLevel {q : Int} (P : Pl h q p nm) {K : Int → mH → Prop} {f l : Int} (hx : mInR f) (hl : mInR l) (kt : 0 ≤ f → f < nf p → 0 ≤ l → l < lv p f → K 1 h) (kf : ¬ ((0 ≤ f ∧ f < nf p) ∧ 0 ≤ l ∧ l < lv p f) → K 0 h) : OkI M3_hasLevel [mR 7 q, mI f, mI l] h K := by
  have h4 := P.n4
  refine s3_hasLevel (k3_hasFactor P hx (fun a c => ⟨by decide, fun w => absurd w (by decide), fun _ => ⟨hl, fun z => kf (by omega), fun z => ⟨by omega, ?_⟩⟩⟩) (fun z => ⟨by decide, fun _ => kf (fun w => z w.1), fun w => absurd rfl w⟩))
  have hb := P.pf a c
  rw [P.lv a c]
  exact ⟨by omega, fun z2 => kf (by omega), fun z2 => kt a c (by omega) (by omega)⟩
theorem vld_iff (hp : WfP p) {x : Int} (hx : 0 ≤ x) : vld p x ↔ (x / 8 ^ (nf p).toNat = 0 ∧ ∀ f, 0 ≤ f → f < nf p → dg x f < lv p f) := by
  have h4 := hp.1.1
  have d0 : dg x 0 = x / 1 % 8 := rfl
  have d1 : dg x 1 = x / 8 % 8 := rfl
  have d2 : dg x 2 = x / 64 % 8 := rfl
  have d3 : dg x 3 = x / 512 % 8 := rfl
  have hn : nf p = 0 ∨ nf p = 1 ∨ nf p = 2 ∨ nf p = 3 ∨ nf p = 4 := by omega
  have key : x / 8 ^ (nf p).toNat = 0 ↔ ((∀ f, 0 ≤ f → f < 4 → nf p ≤ f → dg x f = 0) ∧ x / 4096 = 0) := by
    constructor
    · intro z
      rcases hn with e | e | e | e | e
      · rw [e] at z
        have z : x / 1 = 0 := z
        refine ⟨fun f a c _ => ?_, by omega⟩
        have : f = 0 ∨ f = 1 ∨ f = 2 ∨ f = 3 := by omega
        rcases this with rfl | rfl | rfl | rfl <;> omega
      · rw [e] at z
        have z : x / 8 = 0 := z
        refine ⟨fun f a c d => ?_, by omega⟩
        have : f = 1 ∨ f = 2 ∨ f = 3 := by omega
        rcases this with rfl | rfl | rfl <;> omega
      · rw [e] at z
        have z : x / 64 = 0 := z
        refine ⟨fun f a c d => ?_, by omega⟩
        have : f = 2 ∨ f = 3 := by omega
        rcases this with rfl | rfl <;> omega
      · rw [e] at z
        have z : x / 512 = 0 := z
        refine ⟨fun f a c d => ?_, by omega⟩
        have : f = 3 := by omega
        subst this
        omega
      · rw [e] at z
        have z : x / 4096 = 0 := z
        exact ⟨fun f a c d => by omega, z⟩
    · rintro ⟨z, z2⟩
      rcases hn with e | e | e | e | e
      · rw [e]
        show x / 1 = 0
        have := z 0 (by decide) (by decide) (by omega)
        have := z 1 (by decide) (by decide) (by omega)
        have := z 2 (by decide) (by decide) (by omega)
        have := z 3 (by decide) (by decide) (by omega)
        omega
      · rw [e]
        show x / 8 = 0
        have := z 1 (by decide) (by decide) (by omega)
        have := z 2 (by decide) (by decide) (by omega)
        have := z 3 (by decide) (by decide) (by omega)
        omega
      · rw [e]
        show x / 64 = 0
        have := z 2 (by decide) (by decide) (by omega)
        have := z 3 (by decide) (by decide) (by omega)
        omega
      · rw [e]
        show x / 512 = 0
        have := z 3 (by decide) (by decide) (by omega)
        omega
      · rw [e]
        exact z2
  rw [key]
  constructor
  · rintro ⟨_, z, z2⟩
    exact ⟨⟨fun f a c d => (z f a c).2 d, z2⟩, fun f a c => (z f a (by omega)).1 c⟩
  · rintro ⟨⟨z, z2⟩, z3⟩
    exact ⟨hx, fun f a c => ⟨fun d => z3 f a d, fun d => z f a c d⟩, z2⟩
theorem k3_hasLevels {q : Int} (P : Pl h q p nm) {K : Int → mH → Prop} {x : Int} (hx : mInR x) (kt : vld p x → K 1 h) (kf : ¬ vld p x → K 0 h) : OkI M3_hasLevels [mR 7 q, mI x] h K := by
  have h4 := P.n4
  refine s3_hasLevels ⟨hx, fun z => kf (fun w => by have := w.1; omega), fun z => ?_⟩
  have hi := vld_iff P.w (x := x) (by omega)
  rw [P.n]
  refine s6_slotShift ?_
  have e : mShr x (nf p * 3) = x / 8 ^ (nf p).toNat := by
    rw [mShr_div (by omega) hx.2 (by omega) (by omega), show (nf p * 3).toNat = 3 * (nf p).toNat by omega, Int.pow_mul]
    rfl
  rw [e]
  refine ⟨by rw [← e]; exact mShr_R _ _, fun z2 => ?_, fun z2 => kf (fun w => z2 (hi.mp w).1)⟩
  refine upI (P := fun f => (∀ j, 0 ≤ j → j < f → dg x j < lv p j) → A3_hasLevels_20 K q x f h) (n := nf p) (fun hj => ?_) (fun f h5 h6 ih hj => ?_) 0 (by omega) (by omega) (fun j a c => by omega)
  · refine s3_hasLevels_20 ?_
    rw [P.n]
    exact ⟨by omega, fun _ => kt (hi.mpr ⟨z2, hj⟩), fun z => absurd (Int.le_refl _) z⟩
  · have hb := P.pf h5 h6
    have hd := dg_bd x f
    refine s3_hasLevels_20 ?_
    rw [P.n]
    refine ⟨by omega, fun z => by omega, fun _ => k_levelIn (by omega) (by omega) ⟨by omega, ?_⟩⟩
    rw [P.lv h5 h6]
    refine ⟨by omega, fun z3 => ih (fun j a c => ?_), fun z3 => kf (fun w => z3 ((hi.mp w).2 f h5 h6))⟩
    by_cases d : j = f
    · rw [d]; exact z3
    · exact hj j a (by omega)
theorem k3_countKinds {q : Int} (P : Pl h q p nm) {K : Int → mH → Prop} (k : K (kn p) h) : OkI M3_countKinds [mR 7 q] h K := by
  have h4 := P.n4
  refine s3_countKinds (upI (P := fun f => A3_countKinds_4 K q (fl (fun f y => y * lv p f) 1 f) f h) (n := nf p) ?_ (fun f h5 h6 ih => ?_) 0 (by omega) (by omega))
  · refine s3_countKinds_4 ?_
    rw [P.n]
    exact ⟨by omega, fun _ => k, fun z => absurd (Int.le_refl _) z⟩
  · rw [fl_s _ _ h5] at ih
    refine s3_countKinds_4 ?_
    rw [P.n, P.lv h5 h6]
    exact ⟨by omega, fun z => by omega, fun _ => ⟨by omega, ih⟩⟩
/-! draws -/
theorem k0_number {K : Int → mH → Prop} {l : Int} (k : K (nx l) h) : OkJ M0_numberBehind [mJ l] h K := s0_numberBehind (by rw [mAndL_31]; exact k)
theorem k0_drawn {K : Int → mH → Prop} {l m : Int} (h0 : 0 ≤ l ∧ l < 2147483648) (hm : 0 < m ∧ m ≤ 100000) (k : K ((l / 65536) % m) h) : OkI M0_drawn [mJ l, mI m] h K := by
  refine s0_drawn ⟨by omega, fun _ => ⟨by omega, ?_⟩, fun z => by omega⟩
  rw [mShrL_16 h0.1 h0.2, Int.tmod_eq_emod_of_nonneg (show 0 ≤ l / 65536 by omega)]
  exact ⟨by omega, k⟩
theorem k0_drawClaims (B : Bk h b p s) {K : mH → Prop} {sd n m : Int} (hsd : mInR sd) (hn : 0 ≤ n ∧ n ≤ 60) (hm : 0 ≤ m ∧ m ≤ 99999) (hpos : 0 < s 310) (k : ∀ h2, Bk h2 b p (drw s sd n m) → FrB b h h2 → K h2) : OkV M0_drawClaims [mR 1 b, mI sd, mI n, mI (m + 1)] h K := by
  have hp := B.wp
  have hs := B.wf
  have hm40 := B.m40
  refine s0_drawClaims ⟨hsd, ?_⟩
  refine upI (P := fun i => ∀ h', Bk h' b p (fl (drS s m) (sd, s) i).2 → FrB b h h' → A0_drawClaims_7 K b sd n (m + 1) (fl (drS s m) (sd, s) i).1 i h') (n := n) (fun h' B' F => ?_) (fun i h5 h6 ih h' B' F => ?_) 0 (by omega) (by omega) h B (FrB.rf b h)
  · exact s0_drawClaims_7 ⟨by omega, fun _ => k h' B' F, fun z => absurd (Int.le_refl _) z⟩
  · have hI := dr_I hp hs sd m hpos hm i h5
    rw [fl_s _ _ h5] at ih
    revert ih B' hI
    generalize fl (drS s m) (sd, s) i = a
    intro ih B' hI
    have e310 := hI.2
    have n1 := nx_bd a.1
    have n2 := nx_bd (nx a.1)
    have h10 := Int.emod_nonneg (nx a.1 / 65536) (show s 310 ≠ 0 by omega)
    have h11 := Int.emod_lt_of_pos (nx a.1 / 65536) hpos
    have h12 := Int.emod_nonneg (nx (nx a.1) / 65536) (show m + 1 ≠ 0 by omega)
    have h13 := Int.emod_lt_of_pos (nx (nx a.1) / 65536) (show 0 < m + 1 by omega)
    refine s0_drawClaims_7 ⟨by omega, fun z => by omega, fun _ => k0_number ?_⟩
    rw [B'.m, e310]
    refine k0_drawn n1 (by omega) (k0_number (k0_hasRisk B' (by omega) (fun _ _ => ⟨by decide, fun w => absurd w (by decide), fun _ => k0_drawn n2 (by omega) ⟨by omega, ?_⟩⟩) (fun z => absurd ⟨h10, by rw [e310]; exact h11⟩ z)))
    rintro _ rfl
    rw [mSet_rs]
    exact ih _ (B'.claim h10 (by rw [e310]; exact h11) (by omega)) (F.tr (frB_rs (by decide)))
/-! kinds -/
def fiK (s : Int → Int) (r : Int) : Bool := decide (ls (fun q => decide (pkL s q = pkL s r)) r = -2)
theorem k0_isFirst (B : Bk h b p s) {K : Int → mH → Prop} {r : Int} (h0 : 0 ≤ r) (h1 : r < s 310) (kt : fiK s r = true → K 1 h) (kf : fiK s r = false → K 0 h) : OkI M0_isFirstOfKind [mR 1 b, mI r] h K := by
  have hm := B.m40
  have hb := fun q a c => pkL_bd B.wp B.wf (r := q) a c
  refine s0_isFirstOfKind (upI (P := fun q => (∀ j, 0 ≤ j → j < q → decide (pkL s j = pkL s r) = false) → A0_isFirstOfKind_2 K b r q h) (n := r) (fun hj => ?_) (fun q h5 h6 ih hj => ?_) 0 (by omega) (by omega) (fun j a c => by omega))
  · exact s0_isFirstOfKind_2 ⟨by omega, fun _ => kt (decide_eq_true (ls_no hj)), fun z => absurd (Int.le_refl _) z⟩
  · have b1 := hb q h5 (by omega)
    have b2 := hb r h0 h1
    refine s0_isFirstOfKind_2 ?_
    rw [(B.rk h5 (show q < s 310 by omega)).2.2.2, (B.rk h0 h1).2.2.2]
    refine ⟨by omega, fun z => by omega, fun _ => ⟨by omega, by omega, by omega, fun z => ih (fun j a c => ?_), fun z => kf (decide_eq_false ?_)⟩⟩
    · by_cases d : j = q
      · rw [d]; exact decide_eq_false z
      · exact hj j a (by omega)
    · rw [ls_yes h5 h6 (decide_eq_true z) hj]
      omega
theorem k0_countKinds (B : Bk h b p s) {K : Int → mH → Prop} (k : K (sm (fun r => if fiK s r then 1 else 0) (s 310)) h) : OkI M0_countKinds [mR 1 b] h K := by
  have hm := B.m40
  refine s0_countKinds (upI (P := fun r => A0_countKinds_4 K b (sm (fun r => if fiK s r then 1 else 0) r) r h) (n := s 310) ?_ (fun r h5 h6 ih => ?_) 0 (by omega) (by omega))
  · refine s0_countKinds_4 ?_
    rw [B.m]
    exact ⟨by omega, fun _ => k, fun z => absurd (Int.le_refl _) z⟩
  · rw [sm_s _ h5] at ih
    refine s0_countKinds_4 ?_
    rw [B.m]
    refine ⟨by omega, fun z => by omega, fun _ => k0_isFirst B h5 h6 (fun z => ⟨by decide, fun w => absurd w (by decide), fun _ => ?_⟩) (fun z => ⟨by decide, fun _ => ?_, fun w => absurd rfl w⟩)⟩
    · rw [if_pos z] at ih; exact ih
    · rw [z] at ih; simpa using ih
end CLS10
