/-! the class's tokens -/
def TC (h : mH) (t : Int → Int) (n : Int) : Prop := TpOk t n ∧ ∀ j, 0 ≤ j → j < n → h 26 0 j = sgb (t j)
def ck (s : Int) : Int := if s = 4 then 0 else if s = 5 then 5 else s + 1
def rv (a b : Int) : Prop := a = b ∨ (99999 < a ∧ 99999 < b)
/-- kind, value and place are the token's at q -/
def TkQ (k v p : Int) (t : Int → Int) (n q : Int) : Prop := k = ck (tSq t n q) ∧ p = q ∧ mInR v ∧ (tSq t n q = 0 → v = cw (tVq t n q)) ∧ (tSq t n q = 1 → v = tVq t n q) ∧ (tSq t n q = 2 → rv v (tVq t n q))
def psN (t : Int → Int) (n : Int) : Nat → Int
  | 0 => 0
  | k + 1 => tE t n (psN t n k)
def ps (t : Int → Int) (n j : Int) : Int := psN t n j.toNat
theorem ps_0 (t : Int → Int) (n : Int) : ps t n 0 = 0 := rfl
theorem ps_s {t : Int → Int} {n j : Int} (h : 0 ≤ j) : ps t n (j + 1) = tE t n (ps t n j) := by
  unfold ps
  rw [show (j + 1).toNat = j.toNat + 1 by omega]
  rfl
/-- only the tokens' own cells -/
def FrK (h h2 : mH) : Prop := (∀ r j, ¬ (20 ≤ r ∧ r ≤ 23 ∧ j = 0) → h2 r j = h r j)
section SCAN
variable {h h2 h3 : mH} {t : Int → Int} {n : Int}
theorem FrK.rf (h : mH) : FrK h h := fun _ _ _ => rfl
theorem FrK.tr (a : FrK h h2) (b : FrK h2 h3) : FrK h h3 := fun r j z => (b r j z).trans (a r j z)
theorem FrK.set {q : Nat} {k v : Int} (hq : 20 ≤ q ∧ q ≤ 23) : FrK h (mSet h q 0 k v) := by
  intro r j z
  funext m
  unfold mSet
  rw [if_neg]
  rintro ⟨rfl, rfl, -⟩
  exact z ⟨hq.1, hq.2, rfl⟩
theorem FrK.tc (F : FrK h h2) (T : TC h t n) : TC h2 t n := ⟨T.1, fun j a b => by rw [F 26 0 (by omega)]; exact T.2 j a b⟩
theorem sgb_bd {c : Int} (h : 0 ≤ c ∧ c ≤ 255) : -128 ≤ sgb c ∧ sgb c ≤ 127 := by unfold sgb; split <;> omega
theorem sgb_lt {c : Int} (h : c < 128) : sgb c = c := if_pos h
theorem k5_isLetter {c : Int} (hc : 0 ≤ c ∧ c ≤ 255) {K : Int → mH → Prop} (kt : isL c = true → K 1 h) (kf : isL c = false → K 0 h) : OkI M5_isLetter [mI (sgb c)] h K := by
  have hb := sgb_bd hc
  have e : sgb c = c ∨ (128 ≤ c ∧ sgb c = c - 256) := by unfold sgb; split <;> omega
  exact s5_isLetter ⟨by omega, fun z => kf (isL_f.2 (by omega)), fun z => ⟨by omega, fun z2 => kf (isL_f.2 (by omega)), fun z2 => kt (isL_t.2 (by omega))⟩⟩
theorem k5_isDigit {c : Int} (hc : 0 ≤ c ∧ c ≤ 255) {K : Int → mH → Prop} (kt : isD c = true → K 1 h) (kf : isD c = false → K 0 h) : OkI M5_isDigit [mI (sgb c)] h K := by
  have hb := sgb_bd hc
  have e : sgb c = c ∨ (128 ≤ c ∧ sgb c = c - 256) := by unfold sgb; split <;> omega
  exact s5_isDigit ⟨by omega, fun z => kf (isD_f.2 (by omega)), fun z => ⟨by omega, fun z2 => kf (isD_f.2 (by omega)), fun z2 => kt (isD_t.2 (by omega))⟩⟩
theorem k5_put {K : mH → Prop} {k v p m : Int} (hm : h 20 0 3 = m) (h0 : 0 ≤ m ∧ m ≤ 900) (kk : ∀ h2, FrK h h2 → h2 20 0 3 = m + 1 → h2 20 0 4 = h 20 0 4 → (∀ j, j ≠ m → h2 21 0 j = h 21 0 j ∧ h2 22 0 j = h 22 0 j ∧ h2 23 0 j = h 23 0 j) → h2 21 0 m = k → h2 22 0 m = v → h2 23 0 m = p → K h2) : OkV M5_put [mR 20 0, mI k, mI v, mI p] h K := by
  refine s5_put ?_
  rw [hm]
  refine ⟨by omega, fun z => by omega, fun _ => ⟨by omega, fun z => by omega, fun _ => ⟨by omega, ?_⟩⟩⟩
  rintro _ rfl
  rw [mSet_o (by decide), hm]
  refine ⟨by omega, ?_⟩
  rintro _ rfl
  rw [mSet_o (by decide), mSet_o (by decide), hm]
  refine ⟨by omega, ?_⟩
  rintro _ rfl
  rw [mSet_o (by decide), mSet_o (by decide), mSet_o (by decide), hm]
  rintro _ rfl
  refine kk _ (((FrK.set (by decide)).tr (FrK.set (by decide))).tr ((FrK.set (by decide)).tr (FrK.set (by decide)))) mSet_e ?_ (fun j hj => ⟨?_, ?_, ?_⟩) ?_ ?_ ?_
  · rw [mSet_kk (by decide), mSet_o (by decide), mSet_o (by decide), mSet_o (by decide)]
  · rw [mSet_o (by decide), mSet_o (by decide), mSet_o (by decide), mSet_kk hj]
  · rw [mSet_o (by decide), mSet_o (by decide), mSet_kk hj, mSet_o (by decide)]
  · rw [mSet_o (by decide), mSet_kk hj, mSet_o (by decide), mSet_o (by decide)]
  · rw [mSet_o (by decide), mSet_o (by decide), mSet_o (by decide), mSet_e]
  · rw [mSet_o (by decide), mSet_o (by decide), mSet_e]
  · rw [mSet_o (by decide), mSet_e]
/-! a word -/
theorem mOr_0 {x : Int} (h0 : 0 ≤ x) (h1 : x < 2147483648) : mOr x 0 = x := by
  have := mOr_add 0 (a := x) (b := 0) h0 (Int.le_refl _) (by decide) (by omega) ⟨x.toNat, by omega⟩
  omega
theorem pk_step {q j : Int} (hq : q ≤ j) (hl : ∀ i, q ≤ i → i < j + 1 → isL (t i) = true) : (j - q ≤ 5 → mOr (pk5 t q j) (mShl (t j - 97 + 1) ((5 - (j - q)) * 5)) = pk5 t q (j + 1)) ∧ (¬ j - q ≤ 5 → mOr (pk5 t q j) 0 = pk5 t q (j + 1)) := by
  have hl0 : ∀ i, q ≤ i → i < j → isL (t i) = true := fun i a b => hl i a (by omega)
  have hj := isL_t.1 (hl j hq (by omega))
  have b := fun i hi => lt5_bd (t := t) (q := q) (e := j) hl0 i hi
  have b0 := b 0 (by decide)
  have b1 := b 1 (by decide)
  have b2 := b 2 (by decide)
  have b3 := b 3 (by decide)
  have b4 := b 4 (by decide)
  have b5 := b 5 (by decide)
  have hz : ∀ i, j - q ≤ i → lt5 t q j i = 0 := fun i z => by unfold lt5; rw [if_neg (by omega)]
  have hs : ∀ i, lt5 t q (j + 1) i = if i = j - q then t j - 96 else lt5 t q j i := by
    intro i
    unfold lt5
    by_cases c : i = j - q
    · rw [if_pos c, if_pos (by omega), show q + i = j by omega]
    · rw [if_neg c]
      by_cases d : q + i < j
      · rw [if_pos d, if_pos (by omega)]
      · rw [if_neg d, if_neg (by omega)]
  refine ⟨fun z => ?_, fun z => ?_⟩
  · have cs : j - q = 0 ∨ j - q = 1 ∨ j - q = 2 ∨ j - q = 3 ∨ j - q = 4 ∨ j - q = 5 := by omega
    generalize hd : j - q = d at *
    have hx : 1 ≤ t j - 97 + 1 ∧ t j - 97 + 1 ≤ 26 := by omega
    rcases cs with rfl | rfl | rfl | rfl | rfl | rfl
    · have e : mShl (t j - 97 + 1) ((5 - 0) * 5) = (t j - 97 + 1) * 33554432 := mShl_mul (by omega) (by decide) (by decide) (by show (t j - 97 + 1) * 33554432 < 2147483648; omega)
      have z0 := hz 0 (by decide); have z1 := hz 1 (by decide); have z2 := hz 2 (by decide); have z3 := hz 3 (by decide); have z4 := hz 4 (by decide); have z5 := hz 5 (by decide)
      unfold pk5
      rw [hs 0, hs 1, hs 2, hs 3, hs 4, hs 5, e, mOr_add 30 (by omega) (by omega) (by show (t j - 97 + 1) * 33554432 < 1073741824; omega) (by omega) ⟨0, by omega⟩]
      simp
      omega
    · have e : mShl (t j - 97 + 1) ((5 - 1) * 5) = (t j - 97 + 1) * 1048576 := mShl_mul (by omega) (by decide) (by decide) (by show (t j - 97 + 1) * 1048576 < 2147483648; omega)
      have z1 := hz 1 (by decide); have z2 := hz 2 (by decide); have z3 := hz 3 (by decide); have z4 := hz 4 (by decide); have z5 := hz 5 (by decide)
      unfold pk5
      rw [hs 0, hs 1, hs 2, hs 3, hs 4, hs 5, e, mOr_add 25 (by omega) (by omega) (by show (t j - 97 + 1) * 1048576 < 33554432; omega) (by omega) ⟨(lt5 t q j 0).toNat, by show _ = 33554432 * _; omega⟩]
      simp
      omega
    · have e : mShl (t j - 97 + 1) ((5 - 2) * 5) = (t j - 97 + 1) * 32768 := mShl_mul (by omega) (by decide) (by decide) (by show (t j - 97 + 1) * 32768 < 2147483648; omega)
      have z2 := hz 2 (by decide); have z3 := hz 3 (by decide); have z4 := hz 4 (by decide); have z5 := hz 5 (by decide)
      unfold pk5
      rw [hs 0, hs 1, hs 2, hs 3, hs 4, hs 5, e, mOr_add 20 (by omega) (by omega) (by show (t j - 97 + 1) * 32768 < 1048576; omega) (by omega) ⟨(32 * lt5 t q j 0 + lt5 t q j 1).toNat, by show _ = 1048576 * _; omega⟩]
      simp
      omega
    · have e : mShl (t j - 97 + 1) ((5 - 3) * 5) = (t j - 97 + 1) * 1024 := mShl_mul (by omega) (by decide) (by decide) (by show (t j - 97 + 1) * 1024 < 2147483648; omega)
      have z3 := hz 3 (by decide); have z4 := hz 4 (by decide); have z5 := hz 5 (by decide)
      unfold pk5
      rw [hs 0, hs 1, hs 2, hs 3, hs 4, hs 5, e, mOr_add 15 (by omega) (by omega) (by show (t j - 97 + 1) * 1024 < 32768; omega) (by omega) ⟨(1024 * lt5 t q j 0 + 32 * lt5 t q j 1 + lt5 t q j 2).toNat, by show _ = 32768 * _; omega⟩]
      simp
      omega
    · have e : mShl (t j - 97 + 1) ((5 - 4) * 5) = (t j - 97 + 1) * 32 := mShl_mul (by omega) (by decide) (by decide) (by show (t j - 97 + 1) * 32 < 2147483648; omega)
      have z4 := hz 4 (by decide); have z5 := hz 5 (by decide)
      unfold pk5
      rw [hs 0, hs 1, hs 2, hs 3, hs 4, hs 5, e, mOr_add 10 (by omega) (by omega) (by show (t j - 97 + 1) * 32 < 1024; omega) (by omega) ⟨(32768 * lt5 t q j 0 + 1024 * lt5 t q j 1 + 32 * lt5 t q j 2 + lt5 t q j 3).toNat, by show _ = 1024 * _; omega⟩]
      simp
      omega
    · have e : mShl (t j - 97 + 1) ((5 - 5) * 5) = (t j - 97 + 1) * 1 := mShl_mul (by omega) (by decide) (by decide) (by show (t j - 97 + 1) * 1 < 2147483648; omega)
      have z5 := hz 5 (by decide)
      unfold pk5
      rw [hs 0, hs 1, hs 2, hs 3, hs 4, hs 5, e, mOr_add 5 (by omega) (by omega) (by show (t j - 97 + 1) * 1 < 32; omega) (by omega) ⟨(1048576 * lt5 t q j 0 + 32768 * lt5 t q j 1 + 1024 * lt5 t q j 2 + 32 * lt5 t q j 3 + lt5 t q j 4).toNat, by show _ = 32 * _; omega⟩]
      simp
      omega
  · have hp : pk5 t q (j + 1) = pk5 t q j := by
      unfold pk5
      rw [hs 0, hs 1, hs 2, hs 3, hs 4, hs 5, if_neg (by omega), if_neg (by omega), if_neg (by omega), if_neg (by omega), if_neg (by omega), if_neg (by omega)]
    have hb := pk5_bd (t := t) (q := q) (e := j) hl0
    rw [hp, mOr_0 hb.1 (by omega)]
theorem cw_m1 (x : Int) : cw (wI x) = -1 ↔ wI x = -1 := by
  have hb := wI_bd x
  revert hb
  generalize wI x = w
  intro hb
  unfold cw
  constructor
  · intro e
    repeat' split at e
    all_goals omega
  · intro e
    subst e
    decide
theorem cw_R {w : Int} (h : -1 ≤ w ∧ w ≤ 9) : mInR (cw w) := by
  unfold cw
  repeat' split
  all_goals omega
/-- what a scan of one token leaves -/
def Pt (t : Int → Int) (n q m : Int) (h h2 : mH) : Prop := FrK h h2 ∧ h2 20 0 3 = m + 1 ∧ h2 20 0 4 = tEq t n q ∧ (∀ j, j ≠ m → h2 21 0 j = h 21 0 j ∧ h2 22 0 j = h 22 0 j ∧ h2 23 0 j = h 23 0 j) ∧ TkQ (h2 21 0 m) (h2 22 0 m) (h2 23 0 m) t n q
theorem k5_scanWord (T : TC h t n) {K : mH → Prop} {q m : Int} (h4 : h 20 0 4 = q) (h3 : h 20 0 3 = m) (hq : 0 ≤ q ∧ q < n) (hm : 0 ≤ m ∧ m ≤ 900) (hl : isL (t q) = true) (k : ∀ h2, Pt t n q m h h2 → K h2) : OkV M5_scanWord [mR 20 0, mR 26 0, mI n] h K := by
  have hn := T.1.1
  have hb := sk_bd (P := isL) (t := t) (n := n) (i := q) (by omega)
  have hy := sk_y (n := n) hq.2 hl
  have hb1 := sk_bd (P := isL) (t := t) (n := n) (i := q + 1) (by omega)
  refine s5_scanWord ?_
  rw [h4]
  have key := upI (P := fun d => ∀ h1, FrK h h1 → (∀ j, h1 21 0 j = h 21 0 j ∧ h1 22 0 j = h 22 0 j ∧ h1 23 0 j = h 23 0 j) → h1 20 0 3 = m → h1 20 0 4 = q + d → A5_scanWord_11 K n q (pk5 t q (q + d)) (q + d) h1) (n := sk isL t n q - q) (fun h1 F1 e1 e3 e4 => ?_) (fun d h5 h6 ih h1 F1 e1 e3 e4 => ?_) 0 (by omega) (by omega) h (FrK.rf h) (fun _ => ⟨rfl, rfl, rfl⟩) h3 (by omega)
  · have e0 : pk5 t q (q + 0) = 0 := by
      unfold pk5 lt5
      rw [if_neg (by omega), if_neg (by omega), if_neg (by omega), if_neg (by omega), if_neg (by omega), if_neg (by omega)]
      rfl
    rw [e0, show q + 0 = q by omega] at key
    exact key
  · have ee : q + (sk isL t n q - q) = sk isL t n q := by omega
    rw [ee] at e4 ⊢
    have hall : ∀ j, q ≤ j → j < sk isL t n q → isL (t j) = true := fun j a b => sk_all a b
    have hp := pk5_bd (t := t) hall
    have hw := wI_bd (pk5 t q (sk isL t n q))
    have hcR := cw_R hw
    have hcm := cw_m1 (pk5 t q (sk isL t n q))
    have tE1 : tEq t n q = sk isL t n q := by unfold tEq; rw [if_neg (by omega), if_pos hl]
    have fin : A5_scanWord_57 K n q (pk5 t q (sk isL t n q)) (sk isL t n q) h1 := by
      refine s5_scanWord_57 (k5_wordNumber (by omega) ?_)
      rw [e4]
      have put : ∀ kk v, kk = ck (tSq t n q) → mInR v → (tSq t n q = 0 → v = cw (tVq t n q)) → (tSq t n q = 1 → v = tVq t n q) → tSq t n q ≠ 2 → OkV M5_put [mR 20 0, mI kk, mI v, mI q] h1 (fun h2 => K h2) := fun kk v a b c d e => k5_put e3 hm (fun h2 F2 g3 g4 g5 g6 g7 g8 => k h2 ⟨F1.tr F2, g3, by rw [g4, e4, tE1], fun j hj => by rw [(g5 j hj).1, (g5 j hj).2.1, (g5 j hj).2.2]; exact e1 j, by rw [g6, g7, g8]; exact ⟨a, rfl, b, c, d, fun z => absurd z e⟩⟩)
      have eS : tSq t n q = if wN t q (sk isL t n q) = -1 then (if 6 < sk isL t n q - q then 5 else 1) else 0 := by unfold tSq; rw [if_neg (by omega), if_pos hl]
      have eV : tVq t n q = if wN t q (sk isL t n q) = -1 then pk5 t q (sk isL t n q) else wN t q (sk isL t n q) := by unfold tVq; rw [if_pos hl]
      have eN : wN t q (sk isL t n q) = if 6 < sk isL t n q - q then -1 else wI (pk5 t q (sk isL t n q)) := rfl
      refine ⟨by omega, fun z => ⟨hcR, fun z2 => ?_, fun z2 => ?_⟩, fun z => ?_⟩
      · rw [if_neg (by omega), hcm.1 z2] at eN
        rw [if_pos eN, if_neg (by omega)] at eS
        rw [if_pos eN] at eV
        exact put 2 _ (by rw [eS]; decide) (by omega) (fun w => by omega) (fun w => eV.symm) (by omega)
      · have z3 : ¬ wI (pk5 t q (sk isL t n q)) = -1 := fun w => z2 (hcm.2 w)
        rw [if_neg (by omega)] at eN
        rw [eN, if_neg z3] at eS
        rw [eN, if_neg z3] at eV
        exact put 1 _ (by rw [eS]; decide) hcR (fun w => by rw [eV]) (fun w => by omega) (by omega)
      · rw [if_pos (by omega)] at eN
        rw [if_pos eN, if_pos (by omega)] at eS
        exact put 5 0 (by rw [eS]; decide) (by decide) (fun w => by omega) (fun w => by omega) (by omega)
    refine s5_scanWord_11 ⟨by omega, fun _ => fin, fun z => ⟨by omega, ?_⟩⟩
    have T1 := F1.tc T
    rw [T1.2 _ (by omega) (by omega)]
    refine k5_isLetter (T.1.2 _ (by omega) (by omega)) (fun w => ?_) (fun _ => ⟨by decide, fun _ => fin, fun w => absurd rfl w⟩)
    rw [sk_stop (P := isL) (t := t) (n := n) (i := q) (by omega) (by omega)] at w
    cases w
  · have T1 := F1.tc T
    have hld : isL (t (q + d)) = true := sk_all (n := n) (i := q) (by omega) (by omega)
    have hcd := isL_t.1 hld
    have hps := pk_step (t := t) (q := q) (j := q + d) (by omega) (fun i a b => sk_all (n := n) (i := q) a (by omega))
    rw [show q + d - q = d by omega] at hps
    refine s5_scanWord_11 ⟨by omega, fun z => by omega, fun _ => ⟨by omega, ?_⟩⟩
    rw [T1.2 _ (by omega) (by omega)]
    refine k5_isLetter (by omega) (fun _ => ⟨by decide, fun z => absurd z (by decide), fun _ => ⟨by omega, ?_⟩⟩) (fun z => by rw [hld] at z; cases z)
    rw [T1.2 _ (by omega) (by omega), sgb_lt (by omega), show q + d - q = d by omega]
    have nx : ∀ v, mOr (pk5 t q (q + d)) v = pk5 t q (q + (d + 1)) → ∀ h3 : mH, h3 = mSet h1 20 0 4 (q + d + 1) → A5_scanWord_11 K n q (mOr (pk5 t q (q + d)) v) (q + d + 1) h3 := by
      rintro v ev _ rfl
      rw [ev, show q + d + 1 = q + (d + 1) by omega]
      refine ih _ (F1.tr (FrK.set (by decide))) (fun j => ?_) ?_ mSet_e
      · rw [mSet_o (by decide), mSet_o (by decide), mSet_o (by decide)]; exact e1 j
      · rw [mSet_kk (by decide)]; exact e3
    rw [show q + d + 1 = q + (d + 1) by omega] at hps
    exact s5_letterBits ⟨by omega, fun z => nx _ (hps.1 (by omega)), fun z => nx _ (hps.2 (by omega))⟩
/-! a number -/
theorem k5_scanNumber (T : TC h t n) {K : mH → Prop} {q m : Int} (h4 : h 20 0 4 = q) (h3 : h 20 0 3 = m) (hq : 0 ≤ q ∧ q < n) (hm : 0 ≤ m ∧ m ≤ 900) (hl : isL (t q) = false) (hd : isD (t q) = true) (k : ∀ h2, Pt t n q m h h2 → K h2) : OkV M5_scanNumber [mR 20 0, mR 26 0, mI n] h K := by
  have hn := T.1.1
  have hb := sk_bd (P := isD) (t := t) (n := n) (i := q) (by omega)
  have hl2 : ¬ isL (t q) = true := by rw [hl]; decide
  have eE : tEq t n q = sk isD t n q := by unfold tEq; rw [if_neg (by omega), if_neg hl2, if_pos hd]
  have eS : tSq t n q = 2 := by unfold tSq; rw [if_neg (by omega), if_neg hl2, if_pos hd]
  have eV : tVq t n q = nvl t n q 0 := by unfold tVq; rw [if_neg hl2]
  refine s5_scanNumber ?_
  rw [h4]
  have key := upI (P := fun d => ∀ h1 v a, FrK h h1 → (∀ j, h1 21 0 j = h 21 0 j ∧ h1 22 0 j = h 22 0 j ∧ h1 23 0 j = h 23 0 j) → h1 20 0 3 = m → h1 20 0 4 = q + d → (0 ≤ v ∧ v ≤ 1000000) → (0 ≤ a ∧ a ≤ 999999) → rv v a → nvl t n (q + d) a = nvl t n q 0 → A5_scanNumber_11 K n q v (q + d) h1) (n := sk isD t n q - q) (fun h1 v a F1 e1 e3 e4 hv ha hr hN => ?_) (fun d h5 h6 ih h1 v a F1 e1 e3 e4 hv ha hr hN => ?_) 0 (by omega) (by omega) h 0 0 (FrK.rf h) (fun _ => ⟨rfl, rfl, rfl⟩) h3 (by omega) (by decide) (by decide) (Or.inl rfl) (by rw [show q + 0 = q by omega])
  · rw [show q + 0 = q by omega] at key
    exact key
  · have ee : q + (sk isD t n q - q) = sk isD t n q := by omega
    rw [ee] at e4 hN ⊢
    have hva : nvl t n q 0 = a := by
      rw [← hN]
      by_cases z : sk isD t n q < n
      · rw [nvl_n (sk_stop z (by omega))]
      · rw [nvl_e (by omega)]
    have T1 := F1.tc T
    have put : OkV M5_put [mR 20 0, mI 3, mI v, mI q] h1 (fun h2 => K h2) := k5_put e3 hm (fun h2 F2 g3 g4 g5 g6 g7 g8 => k h2 ⟨F1.tr F2, g3, by rw [g4, e4, eE], fun j hj => by rw [(g5 j hj).1, (g5 j hj).2.1, (g5 j hj).2.2]; exact e1 j, by rw [g6, g7, g8]; exact ⟨by rw [eS]; decide, rfl, by omega, fun z => by omega, fun z => by omega, fun _ => by rw [eV, hva]; exact hr⟩⟩)
    refine s5_scanNumber_11 ⟨by omega, fun _ => put, fun z => ⟨by omega, ?_⟩⟩
    rw [T1.2 _ (by omega) (by omega)]
    refine k5_isDigit (T.1.2 _ (by omega) (by omega)) (fun w => ?_) (fun _ => ⟨by decide, fun _ => put, fun w => absurd rfl w⟩)
    rw [sk_stop (P := isD) (t := t) (n := n) (i := q) (by omega) (by omega)] at w
    cases w
  · have T1 := F1.tc T
    have hdd : isD (t (q + d)) = true := sk_all (n := n) (i := q) (by omega) (by omega)
    have hcd := isD_t.1 hdd
    have hvy := nvl_y (a := a) (show q + d < n by omega) hdd
    rw [hvy] at hN
    refine s5_scanNumber_11 ⟨by omega, fun z => by omega, fun _ => ⟨by omega, ?_⟩⟩
    rw [T1.2 _ (by omega) (by omega)]
    refine k5_isDigit (by omega) (fun _ => ⟨by decide, fun z => absurd z (by decide), fun _ => ⟨by omega, ?_⟩⟩) (fun z => by rw [hdd] at z; cases z)
    rw [T1.2 _ (by omega) (by omega), sgb_lt (by omega)]
    refine ⟨⟨by decide, by omega⟩, ?_⟩
    rintro _ rfl
    rw [show q + d + 1 = q + (d + 1) by omega]
    refine ih _ _ (if 99999 < a then a else 10 * a + t (q + d) - 48) (F1.tr (FrK.set (by decide))) (fun j => ?_) ?_ mSet_e (by omega) ?_ ?_ (by rw [show q + (d + 1) = q + d + 1 by omega]; exact hN)
    · rw [mSet_o (by decide), mSet_o (by decide), mSet_o (by decide)]; exact e1 j
    · rw [mSet_kk (by decide)]; exact e3
    · split <;> omega
    · unfold rv at hr ⊢
      by_cases z : 99999 < a
      · rw [if_pos z]; right; omega
      · rw [if_neg z]; left; omega
/-! all tokens -/
theorem k5_scan (T : TC h t n) {K : mH → Prop} (k : ∀ h2 m, FrK h h2 → h2 20 0 3 = m + 1 → 0 ≤ m → m ≤ 900 → (∀ j, 0 ≤ j → j ≤ m → TkQ (h2 21 0 j) (h2 22 0 j) (h2 23 0 j) t n (tP t n (ps t n j))) → tS t n (ps t n m) = 4 → ps t n m ≤ n → K h2) : OkV M5_scan [mR 20 0, mR 26 0, mI n] h K := by
  have hn := T.1.1
  refine s5_scan ⟨by decide, ⟨by omega, by decide⟩, ⟨by decide, by omega⟩, ?_⟩
  rintro _ rfl _ rfl
  rw [show max 0 (min n (min 900 900)) = n by omega]
  have go : ∀ (f : Nat) (x a m : Int) (h1 : mH), n - a ≤ f → FrK h h1 → h1 20 0 3 = m → h1 20 0 4 = a → (0 ≤ m ∧ m ≤ a) → (0 ≤ x ∧ x ≤ a) → a ≤ n → (∀ j, 0 ≤ j → j < m → TkQ (h1 21 0 j) (h1 22 0 j) (h1 23 0 j) t n (tP t n (ps t n j))) → tP t n (ps t n m) = tP t n a → ps t n m ≤ n → A5_scan_30 K n n x h1 := by
    intro f
    induction f with
    | zero =>
      intro x a m h1 hf F1 e3 e4 hm hx ha hT hp hps
      have ea : a = n := by omega
      have ep : tP t n a = n := by rw [ea]; exact sk_e (Int.le_refl _)
      have eS : tSq t n n = 4 := by unfold tSq; rw [if_pos (Int.le_refl _)]
      have fin : OkV M5_put [mR 20 0, mI 0, mI 0, mI n] h1 (fun h2 => K h2) := k5_put e3 (by omega) (fun h2 F2 g3 g4 g5 g6 g7 g8 => k h2 m (F1.tr F2) g3 hm.1 (by omega) (fun j a b => ?_) (by unfold tS; rw [hp, ep, eS]) hps)
      · exact s5_scan_30 ⟨by omega, fun _ => fin, fun z => by rw [e4]; exact ⟨by omega, fun _ => fin, fun w => by omega⟩⟩
      · by_cases c : j = m
        · rw [c, g6, g7, g8, hp, ep]
          exact ⟨by rw [eS]; decide, rfl, by decide, fun z => by rw [eS] at z; omega, fun z => by rw [eS] at z; omega, fun z => by rw [eS] at z; omega⟩
        · rw [(g5 j c).1, (g5 j c).2.1, (g5 j c).2.2]
          exact hT j a (by omega)
    | succ f ih =>
      intro x a m h1 hf F1 e3 e4 hm hx ha hT hp hps
      by_cases ea : a = n
      · exact ih x a m h1 (by omega) F1 e3 e4 hm hx ha hT hp hps
      · have T1 := F1.tc T
        have hc := T.1.2 a (by omega) (by omega)
        have hsb := sgb_bd hc
        have hs2 : sgb (t a) = t a ∨ (128 ≤ t a ∧ sgb (t a) = t a - 256) := by unfold sgb; split <;> omega
        refine s5_scan_30 ⟨by omega, fun z => by omega, fun _ => ?_⟩
        rw [e4]
        refine ⟨by omega, fun z => by omega, fun _ => ⟨by omega, ?_⟩⟩
        rw [T1.2 a (by omega) (by omega)]
        have tok : isB (t a) = false → ∀ h2, Pt t n a m h1 h2 → A5_scan_30 K n n (x + 1) h2 := by
          intro hB h2 P
          obtain ⟨p1, p2, p3, p4, p5⟩ := P
          have epa : tP t n a = a := sk_n hB
          have hne : tSq t n a ≠ 4 := by
            intro w
            have := tS_end (t := t) (n := n) (i := a) (by omega) (by unfold tS; rw [epa]; exact w)
            omega
          have hE := tE_bd (t := t) (n := n) (i := a) (by omega)
          have hE2 : tE t n a = tEq t n a := by unfold tE; rw [epa]
          have hS2 : tS t n a = tSq t n a := by unfold tS; rw [epa]
          rw [hE2, hS2, epa] at hE
          have hE3 := hE.2.2 hne
          have enx : ps t n (m + 1) = tEq t n a := by rw [ps_s hm.1]; unfold tE; rw [hp, epa]
          refine ih (x + 1) (tEq t n a) (m + 1) h2 (by omega) (F1.tr p1) p2 p3 (by omega) (by omega) hE.2.1 (fun j b c => ?_) (by rw [enx]) (by rw [enx]; exact hE.2.1)
          by_cases w : j = m
          · rw [w, hp, epa]; exact p5
          · rw [(p4 j w).1, (p4 j w).2.1, (p4 j w).2.2]
            exact hT j b (by omega)
        have bl : isB (t a) = true → ∀ h2 : mH, h2 = mSet h1 20 0 4 (h1 20 0 4 + 1) → A5_scan_30 K n n (x + 1) h2 := by
          rintro hB _ rfl
          rw [e4]
          have epa : tP t n a = tP t n (a + 1) := sk_y (by omega) hB
          refine ih (x + 1) (a + 1) m _ (by omega) (F1.tr (FrK.set (by decide))) ?_ mSet_e (by omega) (by omega) (by omega) (fun j b c => ?_) (by rw [hp, epa]) hps
          · rw [mSet_kk (by decide)]; exact e3
          · rw [mSet_o (by decide), mSet_o (by decide), mSet_o (by decide)]; exact hT j b c
        refine k5_isLetter hc (fun hl => ⟨by decide, fun z => absurd z (by decide), fun _ => ?_⟩) (fun hl => ⟨by decide, fun _ => ?_, fun z => absurd rfl z⟩)
        · have hl2 := isL_t.1 hl
          exact k5_scanWord T1 e4 e3 (by omega) (by omega) hl (tok (isB_f.2 (by omega)))
        · refine k5_isDigit hc (fun hd => ⟨by decide, fun z => absurd z (by decide), fun _ => ?_⟩) (fun hd => ⟨by decide, fun _ => ?_, fun z => absurd rfl z⟩)
          · have hd2 := isD_t.1 hd
            exact k5_scanNumber T1 e4 e3 (by omega) (by omega) hl hd (tok (isB_f.2 (by omega)))
          · have hl2 : ¬ isL (t a) = true := by rw [hl]; decide
            have hd2 : ¬ isD (t a) = true := by rw [hd]; decide
            have eE : tEq t n a = a + 1 := by unfold tEq; rw [if_neg (by omega), if_neg hl2, if_neg hd2]
            have eS : tSq t n a = if t a = 59 then 3 else 5 := by unfold tSq; rw [if_neg (by omega), if_neg hl2, if_neg hd2]
            refine ⟨by omega, fun z => bl (isB_t.2 (by omega)), fun z => ⟨by omega, fun z2 => bl (isB_t.2 (by omega)), fun z2 => ?_⟩⟩
            have hB : isB (t a) = false := isB_f.2 (by omega)
            have put : ∀ kk, kk = ck (tSq t n a) → OkV M5_put [mR 20 0, mI kk, mI 0, mI (h1 20 0 4)] h1 (fun h7 => ∀ h8 : mH, h8 = mSet h7 20 0 4 (h7 20 0 4 + 1) → A5_scan_30 K n n (x + 1) h8) := by
              intro kk hk
              rw [e4]
              refine k5_put e3 (by omega) (fun h2 F2 g3 g4 g5 g6 g7 g8 => ?_)
              rintro _ rfl
              refine tok hB _ ⟨F2.tr (FrK.set (by decide)), ?_, ?_, fun j hj => ?_, ?_⟩
              · rw [mSet_kk (by decide)]; exact g3
              · rw [mSet_e, g4, e4, eE]
              · rw [mSet_o (by decide), mSet_o (by decide), mSet_o (by decide)]; exact g5 j hj
              · rw [mSet_o (by decide), mSet_o (by decide), mSet_o (by decide), g6, g7, g8]
                have hne : tSq t n a = 3 ∨ tSq t n a = 5 := by rw [eS]; split <;> omega
                exact ⟨hk, rfl, by decide, fun w => by omega, fun w => by omega, fun w => by omega⟩
            refine ⟨by omega, fun z3 => ?_, fun z3 => ?_⟩
            · have h59 : ¬ t a = 59 := by omega
              rw [if_neg h59] at eS
              exact put 5 (by rw [eS]; decide)
            · have h59 : t a = 59 := by omega
              rw [if_pos h59] at eS
              exact put 4 (by rw [eS]; decide)
  refine go n.toNat 0 0 0 _ (by omega) ((FrK.set (by decide)).tr (FrK.set (by decide))) ?_ mSet_e (by decide) (by decide) hn.1 (fun j a b => by omega) rfl hn.1
  rw [mSet_kk (by decide), mSet_e]
end SCAN
