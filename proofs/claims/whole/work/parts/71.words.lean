/-! the words of a text, as both find them -/
/-- a word's number as the class counts them -/
def cw (w : Int) : Int := if w = 0 then 4 else if w = 1 then 5 else if w = 2 then 6 else if w = 3 then 9 else if w = 4 then 7 else if w = 5 then 8 else if w = -1 then -1 else w - 6
theorem mOr_nat {a b : Nat} (ha : a < 2147483648) (hb : b < 2147483648) : mOr (a : Int) (b : Int) = ((a ||| b : Nat) : Int) := by
  unfold mOr
  rw [Int32.ofInt_eq_ofNat, Int32.ofInt_eq_ofNat]
  have e : (Int32.ofNat a ||| Int32.ofNat b) = nI (a ||| b) := by
    apply Int32.toBitVec_inj.mp
    rw [Int32.toBitVec_or]
    show BitVec.ofNat 32 a ||| BitVec.ofNat 32 b = BitVec.ofNat 32 (a ||| b)
    apply BitVec.eq_of_toNat_eq
    rw [BitVec.toNat_or, BitVec.toNat_ofNat, BitVec.toNat_ofNat, BitVec.toNat_ofNat, Nat.mod_eq_of_lt (by omega), Nat.mod_eq_of_lt (by omega)]
    have : a ||| b < 2 ^ 31 := Nat.or_lt_two_pow (by omega) (by omega)
    rw [Nat.mod_eq_of_lt (by omega)]
  have h2 : a ||| b < 2 ^ 31 := Nat.or_lt_two_pow (by omega) (by omega)
  rw [e, nI_toInt (by omega)]
theorem mOr_add (k : Nat) {a b : Int} (h0 : 0 ≤ a) (h1 : 0 ≤ b) (h2 : b < 2 ^ k) (h3 : a + b < 2147483648) (hd : ∃ c : Nat, a = 2 ^ k * (c : Int)) : mOr a b = a + b := by
  obtain ⟨c, rfl⟩ := hd
  have e1 : (2 : Int) ^ k * (c : Int) = ((2 ^ k * c : Nat) : Int) := by simp
  rw [e1] at h3 ⊢
  have eb : b = (b.toNat : Int) := by omega
  have hb : b.toNat < 2 ^ k := by
    have e2 : ((2 ^ k : Nat) : Int) = (2 : Int) ^ k := by simp
    omega
  rw [eb, mOr_nat (by omega) (by omega), ← Nat.two_pow_add_eq_or_of_lt hb]
  omega
section WORDS
variable {h : mH} {t : Int → Int} {n : Int}
theorem k5_wordNumber {K : Int → mH → Prop} {x : Int} (hx : mInR x) (k : K (cw (wI x)) h) : OkI M5_wordNumber [mI x] h K := by
  have t54 : ¬ 202494450 = x → ¬ 68620288 = x → ¬ 351582208 = x → ¬ 614050816 = x → ¬ 68785152 = x → ¬ 83540096 = x → ¬ 102236160 = x → ¬ 690671232 = x → ¬ 214079104 = x → ¬ 642945024 = x → A5_wordNumber_9 K x 10 0 0 54 h := by
    intro n0 n1 n2 n3 n4 n5 n6 n7 n8 n9
    have e : cw (wI x) = -1 := by
      unfold wI
      rw [if_neg (fun z => n4 z.symm), if_neg (fun z => n5 z.symm), if_neg (fun z => n6 z.symm), if_neg (fun z => n9 z.symm), if_neg (fun z => n7 z.symm), if_neg (fun z => n8 z.symm), if_neg (fun z => n0 z.symm), if_neg (fun z => n1 z.symm), if_neg (fun z => n2 z.symm), if_neg (fun z => n3 z.symm)]
      rfl
    rw [e] at k
    exact s5_wordNumber_9 ⟨by decide, fun _ => k, fun z => absurd (by decide) z⟩
  have t53 : ¬ 202494450 = x → ¬ 68620288 = x → ¬ 351582208 = x → ¬ 614050816 = x → ¬ 68785152 = x → ¬ 83540096 = x → ¬ 102236160 = x → ¬ 690671232 = x → ¬ 214079104 = x → A5_wordNumber_9 K x 9 4 642945024 53 h := by
    intro n0 n1 n2 n3 n4 n5 n6 n7 n8
    refine s5_wordNumber_9 ⟨by decide, fun z => absurd z (by decide), fun _ => ⟨by decide, by decide +kernel, fun _ => ⟨⟨by decide, hx⟩, fun z => t54 n0 n1 n2 n3 n4 n5 n6 n7 n8 z, fun z => ?_⟩, fun z => absurd (by decide +kernel) z⟩⟩
    rw [← z, show cw (wI 642945024) = 9 by decide] at k
    exact k
  have t52 : ¬ 202494450 = x → ¬ 68620288 = x → ¬ 351582208 = x → ¬ 614050816 = x → ¬ 68785152 = x → ¬ 83540096 = x → ¬ 102236160 = x → ¬ 690671232 = x → ¬ 214079104 = x → A5_wordNumber_9 K x 9 3 642940928 52 h := by
    intro n0 n1 n2 n3 n4 n5 n6 n7 n8
    exact s5_wordNumber_9 ⟨by decide, fun z => absurd z (by decide), fun _ => ⟨by decide, by decide +kernel, fun z => absurd z (by decide +kernel), fun _ => s5_letterBits ⟨by decide, fun _ => by rw [show mOr 642940928 (mShl (mCh0 52 - 97 + 1) ((5 - 3) * 5)) = 642945024 by decide +kernel]; exact t53 n0 n1 n2 n3 n4 n5 n6 n7 n8, fun z => absurd (by decide) z⟩⟩⟩
  have t51 : ¬ 202494450 = x → ¬ 68620288 = x → ¬ 351582208 = x → ¬ 614050816 = x → ¬ 68785152 = x → ¬ 83540096 = x → ¬ 102236160 = x → ¬ 690671232 = x → ¬ 214079104 = x → A5_wordNumber_9 K x 9 2 642777088 51 h := by
    intro n0 n1 n2 n3 n4 n5 n6 n7 n8
    exact s5_wordNumber_9 ⟨by decide, fun z => absurd z (by decide), fun _ => ⟨by decide, by decide +kernel, fun z => absurd z (by decide +kernel), fun _ => s5_letterBits ⟨by decide, fun _ => by rw [show mOr 642777088 (mShl (mCh0 51 - 97 + 1) ((5 - 2) * 5)) = 642940928 by decide +kernel]; exact t52 n0 n1 n2 n3 n4 n5 n6 n7 n8, fun z => absurd (by decide) z⟩⟩⟩
  have t50 : ¬ 202494450 = x → ¬ 68620288 = x → ¬ 351582208 = x → ¬ 614050816 = x → ¬ 68785152 = x → ¬ 83540096 = x → ¬ 102236160 = x → ¬ 690671232 = x → ¬ 214079104 = x → A5_wordNumber_9 K x 9 1 637534208 50 h := by
    intro n0 n1 n2 n3 n4 n5 n6 n7 n8
    exact s5_wordNumber_9 ⟨by decide, fun z => absurd z (by decide), fun _ => ⟨by decide, by decide +kernel, fun z => absurd z (by decide +kernel), fun _ => s5_letterBits ⟨by decide, fun _ => by rw [show mOr 637534208 (mShl (mCh0 50 - 97 + 1) ((5 - 1) * 5)) = 642777088 by decide +kernel]; exact t51 n0 n1 n2 n3 n4 n5 n6 n7 n8, fun z => absurd (by decide) z⟩⟩⟩
  have t49 : ¬ 202494450 = x → ¬ 68620288 = x → ¬ 351582208 = x → ¬ 614050816 = x → ¬ 68785152 = x → ¬ 83540096 = x → ¬ 102236160 = x → ¬ 690671232 = x → ¬ 214079104 = x → A5_wordNumber_9 K x 9 0 0 49 h := by
    intro n0 n1 n2 n3 n4 n5 n6 n7 n8
    exact s5_wordNumber_9 ⟨by decide, fun z => absurd z (by decide), fun _ => ⟨by decide, by decide +kernel, fun z => absurd z (by decide +kernel), fun _ => s5_letterBits ⟨by decide, fun _ => by rw [show mOr 0 (mShl (mCh0 49 - 97 + 1) ((5 - 0) * 5)) = 637534208 by decide +kernel]; exact t50 n0 n1 n2 n3 n4 n5 n6 n7 n8, fun z => absurd (by decide) z⟩⟩⟩
  have t48 : ¬ 202494450 = x → ¬ 68620288 = x → ¬ 351582208 = x → ¬ 614050816 = x → ¬ 68785152 = x → ¬ 83540096 = x → ¬ 102236160 = x → ¬ 690671232 = x → A5_wordNumber_9 K x 8 5 214079104 48 h := by
    intro n0 n1 n2 n3 n4 n5 n6 n7
    refine s5_wordNumber_9 ⟨by decide, fun z => absurd z (by decide), fun _ => ⟨by decide, by decide +kernel, fun _ => ⟨⟨by decide, hx⟩, fun z => t49 n0 n1 n2 n3 n4 n5 n6 n7 z, fun z => ?_⟩, fun z => absurd (by decide +kernel) z⟩⟩
    rw [← z, show cw (wI 214079104) = 8 by decide] at k
    exact k
  have t47 : ¬ 202494450 = x → ¬ 68620288 = x → ¬ 351582208 = x → ¬ 614050816 = x → ¬ 68785152 = x → ¬ 83540096 = x → ¬ 102236160 = x → ¬ 690671232 = x → A5_wordNumber_9 K x 8 4 214078464 47 h := by
    intro n0 n1 n2 n3 n4 n5 n6 n7
    exact s5_wordNumber_9 ⟨by decide, fun z => absurd z (by decide), fun _ => ⟨by decide, by decide +kernel, fun z => absurd z (by decide +kernel), fun _ => s5_letterBits ⟨by decide, fun _ => by rw [show mOr 214078464 (mShl (mCh0 47 - 97 + 1) ((5 - 4) * 5)) = 214079104 by decide +kernel]; exact t48 n0 n1 n2 n3 n4 n5 n6 n7, fun z => absurd (by decide) z⟩⟩⟩
  have t46 : ¬ 202494450 = x → ¬ 68620288 = x → ¬ 351582208 = x → ¬ 614050816 = x → ¬ 68785152 = x → ¬ 83540096 = x → ¬ 102236160 = x → ¬ 690671232 = x → A5_wordNumber_9 K x 8 3 214073344 46 h := by
    intro n0 n1 n2 n3 n4 n5 n6 n7
    exact s5_wordNumber_9 ⟨by decide, fun z => absurd z (by decide), fun _ => ⟨by decide, by decide +kernel, fun z => absurd z (by decide +kernel), fun _ => s5_letterBits ⟨by decide, fun _ => by rw [show mOr 214073344 (mShl (mCh0 46 - 97 + 1) ((5 - 3) * 5)) = 214078464 by decide +kernel]; exact t47 n0 n1 n2 n3 n4 n5 n6 n7, fun z => absurd (by decide) z⟩⟩⟩
  have t45 : ¬ 202494450 = x → ¬ 68620288 = x → ¬ 351582208 = x → ¬ 614050816 = x → ¬ 68785152 = x → ¬ 83540096 = x → ¬ 102236160 = x → ¬ 690671232 = x → A5_wordNumber_9 K x 8 2 213909504 45 h := by
    intro n0 n1 n2 n3 n4 n5 n6 n7
    exact s5_wordNumber_9 ⟨by decide, fun z => absurd z (by decide), fun _ => ⟨by decide, by decide +kernel, fun z => absurd z (by decide +kernel), fun _ => s5_letterBits ⟨by decide, fun _ => by rw [show mOr 213909504 (mShl (mCh0 45 - 97 + 1) ((5 - 2) * 5)) = 214073344 by decide +kernel]; exact t46 n0 n1 n2 n3 n4 n5 n6 n7, fun z => absurd (by decide) z⟩⟩⟩
  have t44 : ¬ 202494450 = x → ¬ 68620288 = x → ¬ 351582208 = x → ¬ 614050816 = x → ¬ 68785152 = x → ¬ 83540096 = x → ¬ 102236160 = x → ¬ 690671232 = x → A5_wordNumber_9 K x 8 1 201326592 44 h := by
    intro n0 n1 n2 n3 n4 n5 n6 n7
    exact s5_wordNumber_9 ⟨by decide, fun z => absurd z (by decide), fun _ => ⟨by decide, by decide +kernel, fun z => absurd z (by decide +kernel), fun _ => s5_letterBits ⟨by decide, fun _ => by rw [show mOr 201326592 (mShl (mCh0 44 - 97 + 1) ((5 - 1) * 5)) = 213909504 by decide +kernel]; exact t45 n0 n1 n2 n3 n4 n5 n6 n7, fun z => absurd (by decide) z⟩⟩⟩
  have t43 : ¬ 202494450 = x → ¬ 68620288 = x → ¬ 351582208 = x → ¬ 614050816 = x → ¬ 68785152 = x → ¬ 83540096 = x → ¬ 102236160 = x → ¬ 690671232 = x → A5_wordNumber_9 K x 8 0 0 43 h := by
    intro n0 n1 n2 n3 n4 n5 n6 n7
    exact s5_wordNumber_9 ⟨by decide, fun z => absurd z (by decide), fun _ => ⟨by decide, by decide +kernel, fun z => absurd z (by decide +kernel), fun _ => s5_letterBits ⟨by decide, fun _ => by rw [show mOr 0 (mShl (mCh0 43 - 97 + 1) ((5 - 0) * 5)) = 201326592 by decide +kernel]; exact t44 n0 n1 n2 n3 n4 n5 n6 n7, fun z => absurd (by decide) z⟩⟩⟩
  have t42 : ¬ 202494450 = x → ¬ 68620288 = x → ¬ 351582208 = x → ¬ 614050816 = x → ¬ 68785152 = x → ¬ 83540096 = x → ¬ 102236160 = x → A5_wordNumber_9 K x 7 5 690671232 42 h := by
    intro n0 n1 n2 n3 n4 n5 n6
    refine s5_wordNumber_9 ⟨by decide, fun z => absurd z (by decide), fun _ => ⟨by decide, by decide +kernel, fun _ => ⟨⟨by decide, hx⟩, fun z => t43 n0 n1 n2 n3 n4 n5 n6 z, fun z => ?_⟩, fun z => absurd (by decide +kernel) z⟩⟩
    rw [← z, show cw (wI 690671232) = 7 by decide] at k
    exact k
  have t41 : ¬ 202494450 = x → ¬ 68620288 = x → ¬ 351582208 = x → ¬ 614050816 = x → ¬ 68785152 = x → ¬ 83540096 = x → ¬ 102236160 = x → A5_wordNumber_9 K x 7 4 690670592 41 h := by
    intro n0 n1 n2 n3 n4 n5 n6
    exact s5_wordNumber_9 ⟨by decide, fun z => absurd z (by decide), fun _ => ⟨by decide, by decide +kernel, fun z => absurd z (by decide +kernel), fun _ => s5_letterBits ⟨by decide, fun _ => by rw [show mOr 690670592 (mShl (mCh0 41 - 97 + 1) ((5 - 4) * 5)) = 690671232 by decide +kernel]; exact t42 n0 n1 n2 n3 n4 n5 n6, fun z => absurd (by decide) z⟩⟩⟩
  have t40 : ¬ 202494450 = x → ¬ 68620288 = x → ¬ 351582208 = x → ¬ 614050816 = x → ¬ 68785152 = x → ¬ 83540096 = x → ¬ 102236160 = x → A5_wordNumber_9 K x 7 3 690651136 40 h := by
    intro n0 n1 n2 n3 n4 n5 n6
    exact s5_wordNumber_9 ⟨by decide, fun z => absurd z (by decide), fun _ => ⟨by decide, by decide +kernel, fun z => absurd z (by decide +kernel), fun _ => s5_letterBits ⟨by decide, fun _ => by rw [show mOr 690651136 (mShl (mCh0 40 - 97 + 1) ((5 - 3) * 5)) = 690670592 by decide +kernel]; exact t41 n0 n1 n2 n3 n4 n5 n6, fun z => absurd (by decide) z⟩⟩⟩
  have t39 : ¬ 202494450 = x → ¬ 68620288 = x → ¬ 351582208 = x → ¬ 614050816 = x → ¬ 68785152 = x → ¬ 83540096 = x → ¬ 102236160 = x → A5_wordNumber_9 K x 7 2 689963008 39 h := by
    intro n0 n1 n2 n3 n4 n5 n6
    exact s5_wordNumber_9 ⟨by decide, fun z => absurd z (by decide), fun _ => ⟨by decide, by decide +kernel, fun z => absurd z (by decide +kernel), fun _ => s5_letterBits ⟨by decide, fun _ => by rw [show mOr 689963008 (mShl (mCh0 39 - 97 + 1) ((5 - 2) * 5)) = 690651136 by decide +kernel]; exact t40 n0 n1 n2 n3 n4 n5 n6, fun z => absurd (by decide) z⟩⟩⟩
  have t38 : ¬ 202494450 = x → ¬ 68620288 = x → ¬ 351582208 = x → ¬ 614050816 = x → ¬ 68785152 = x → ¬ 83540096 = x → ¬ 102236160 = x → A5_wordNumber_9 K x 7 1 671088640 38 h := by
    intro n0 n1 n2 n3 n4 n5 n6
    exact s5_wordNumber_9 ⟨by decide, fun z => absurd z (by decide), fun _ => ⟨by decide, by decide +kernel, fun z => absurd z (by decide +kernel), fun _ => s5_letterBits ⟨by decide, fun _ => by rw [show mOr 671088640 (mShl (mCh0 38 - 97 + 1) ((5 - 1) * 5)) = 689963008 by decide +kernel]; exact t39 n0 n1 n2 n3 n4 n5 n6, fun z => absurd (by decide) z⟩⟩⟩
  have t37 : ¬ 202494450 = x → ¬ 68620288 = x → ¬ 351582208 = x → ¬ 614050816 = x → ¬ 68785152 = x → ¬ 83540096 = x → ¬ 102236160 = x → A5_wordNumber_9 K x 7 0 0 37 h := by
    intro n0 n1 n2 n3 n4 n5 n6
    exact s5_wordNumber_9 ⟨by decide, fun z => absurd z (by decide), fun _ => ⟨by decide, by decide +kernel, fun z => absurd z (by decide +kernel), fun _ => s5_letterBits ⟨by decide, fun _ => by rw [show mOr 0 (mShl (mCh0 37 - 97 + 1) ((5 - 0) * 5)) = 671088640 by decide +kernel]; exact t38 n0 n1 n2 n3 n4 n5 n6, fun z => absurd (by decide) z⟩⟩⟩
  have t36 : ¬ 202494450 = x → ¬ 68620288 = x → ¬ 351582208 = x → ¬ 614050816 = x → ¬ 68785152 = x → ¬ 83540096 = x → A5_wordNumber_9 K x 6 3 102236160 36 h := by
    intro n0 n1 n2 n3 n4 n5
    refine s5_wordNumber_9 ⟨by decide, fun z => absurd z (by decide), fun _ => ⟨by decide, by decide +kernel, fun _ => ⟨⟨by decide, hx⟩, fun z => t37 n0 n1 n2 n3 n4 n5 z, fun z => ?_⟩, fun z => absurd (by decide +kernel) z⟩⟩
    rw [← z, show cw (wI 102236160) = 6 by decide] at k
    exact k
  have t35 : ¬ 202494450 = x → ¬ 68620288 = x → ¬ 351582208 = x → ¬ 614050816 = x → ¬ 68785152 = x → ¬ 83540096 = x → A5_wordNumber_9 K x 6 2 101711872 35 h := by
    intro n0 n1 n2 n3 n4 n5
    exact s5_wordNumber_9 ⟨by decide, fun z => absurd z (by decide), fun _ => ⟨by decide, by decide +kernel, fun z => absurd z (by decide +kernel), fun _ => s5_letterBits ⟨by decide, fun _ => by rw [show mOr 101711872 (mShl (mCh0 35 - 97 + 1) ((5 - 2) * 5)) = 102236160 by decide +kernel]; exact t36 n0 n1 n2 n3 n4 n5, fun z => absurd (by decide) z⟩⟩⟩
  have t34 : ¬ 202494450 = x → ¬ 68620288 = x → ¬ 351582208 = x → ¬ 614050816 = x → ¬ 68785152 = x → ¬ 83540096 = x → A5_wordNumber_9 K x 6 1 100663296 34 h := by
    intro n0 n1 n2 n3 n4 n5
    exact s5_wordNumber_9 ⟨by decide, fun z => absurd z (by decide), fun _ => ⟨by decide, by decide +kernel, fun z => absurd z (by decide +kernel), fun _ => s5_letterBits ⟨by decide, fun _ => by rw [show mOr 100663296 (mShl (mCh0 34 - 97 + 1) ((5 - 1) * 5)) = 101711872 by decide +kernel]; exact t35 n0 n1 n2 n3 n4 n5, fun z => absurd (by decide) z⟩⟩⟩
  have t33 : ¬ 202494450 = x → ¬ 68620288 = x → ¬ 351582208 = x → ¬ 614050816 = x → ¬ 68785152 = x → ¬ 83540096 = x → A5_wordNumber_9 K x 6 0 0 33 h := by
    intro n0 n1 n2 n3 n4 n5
    exact s5_wordNumber_9 ⟨by decide, fun z => absurd z (by decide), fun _ => ⟨by decide, by decide +kernel, fun z => absurd z (by decide +kernel), fun _ => s5_letterBits ⟨by decide, fun _ => by rw [show mOr 0 (mShl (mCh0 33 - 97 + 1) ((5 - 0) * 5)) = 100663296 by decide +kernel]; exact t34 n0 n1 n2 n3 n4 n5, fun z => absurd (by decide) z⟩⟩⟩
  have t32 : ¬ 202494450 = x → ¬ 68620288 = x → ¬ 351582208 = x → ¬ 614050816 = x → ¬ 68785152 = x → A5_wordNumber_9 K x 5 5 83540096 32 h := by
    intro n0 n1 n2 n3 n4
    refine s5_wordNumber_9 ⟨by decide, fun z => absurd z (by decide), fun _ => ⟨by decide, by decide +kernel, fun _ => ⟨⟨by decide, hx⟩, fun z => t33 n0 n1 n2 n3 n4 z, fun z => ?_⟩, fun z => absurd (by decide +kernel) z⟩⟩
    rw [← z, show cw (wI 83540096) = 5 by decide] at k
    exact k
  have t31 : ¬ 202494450 = x → ¬ 68620288 = x → ¬ 351582208 = x → ¬ 614050816 = x → ¬ 68785152 = x → A5_wordNumber_9 K x 5 4 83539968 31 h := by
    intro n0 n1 n2 n3 n4
    exact s5_wordNumber_9 ⟨by decide, fun z => absurd z (by decide), fun _ => ⟨by decide, by decide +kernel, fun z => absurd z (by decide +kernel), fun _ => s5_letterBits ⟨by decide, fun _ => by rw [show mOr 83539968 (mShl (mCh0 31 - 97 + 1) ((5 - 4) * 5)) = 83540096 by decide +kernel]; exact t32 n0 n1 n2 n3 n4, fun z => absurd (by decide) z⟩⟩⟩
  have t30 : ¬ 202494450 = x → ¬ 68620288 = x → ¬ 351582208 = x → ¬ 614050816 = x → ¬ 68785152 = x → A5_wordNumber_9 K x 5 3 83525632 30 h := by
    intro n0 n1 n2 n3 n4
    exact s5_wordNumber_9 ⟨by decide, fun z => absurd z (by decide), fun _ => ⟨by decide, by decide +kernel, fun z => absurd z (by decide +kernel), fun _ => s5_letterBits ⟨by decide, fun _ => by rw [show mOr 83525632 (mShl (mCh0 30 - 97 + 1) ((5 - 3) * 5)) = 83539968 by decide +kernel]; exact t31 n0 n1 n2 n3 n4, fun z => absurd (by decide) z⟩⟩⟩
  have t29 : ¬ 202494450 = x → ¬ 68620288 = x → ¬ 351582208 = x → ¬ 614050816 = x → ¬ 68785152 = x → A5_wordNumber_9 K x 5 2 82837504 29 h := by
    intro n0 n1 n2 n3 n4
    exact s5_wordNumber_9 ⟨by decide, fun z => absurd z (by decide), fun _ => ⟨by decide, by decide +kernel, fun z => absurd z (by decide +kernel), fun _ => s5_letterBits ⟨by decide, fun _ => by rw [show mOr 82837504 (mShl (mCh0 29 - 97 + 1) ((5 - 2) * 5)) = 83525632 by decide +kernel]; exact t30 n0 n1 n2 n3 n4, fun z => absurd (by decide) z⟩⟩⟩
  have t28 : ¬ 202494450 = x → ¬ 68620288 = x → ¬ 351582208 = x → ¬ 614050816 = x → ¬ 68785152 = x → A5_wordNumber_9 K x 5 1 67108864 28 h := by
    intro n0 n1 n2 n3 n4
    exact s5_wordNumber_9 ⟨by decide, fun z => absurd z (by decide), fun _ => ⟨by decide, by decide +kernel, fun z => absurd z (by decide +kernel), fun _ => s5_letterBits ⟨by decide, fun _ => by rw [show mOr 67108864 (mShl (mCh0 28 - 97 + 1) ((5 - 1) * 5)) = 82837504 by decide +kernel]; exact t29 n0 n1 n2 n3 n4, fun z => absurd (by decide) z⟩⟩⟩
  have t27 : ¬ 202494450 = x → ¬ 68620288 = x → ¬ 351582208 = x → ¬ 614050816 = x → ¬ 68785152 = x → A5_wordNumber_9 K x 5 0 0 27 h := by
    intro n0 n1 n2 n3 n4
    exact s5_wordNumber_9 ⟨by decide, fun z => absurd z (by decide), fun _ => ⟨by decide, by decide +kernel, fun z => absurd z (by decide +kernel), fun _ => s5_letterBits ⟨by decide, fun _ => by rw [show mOr 0 (mShl (mCh0 27 - 97 + 1) ((5 - 0) * 5)) = 67108864 by decide +kernel]; exact t28 n0 n1 n2 n3 n4, fun z => absurd (by decide) z⟩⟩⟩
  have t26 : ¬ 202494450 = x → ¬ 68620288 = x → ¬ 351582208 = x → ¬ 614050816 = x → A5_wordNumber_9 K x 4 4 68785152 26 h := by
    intro n0 n1 n2 n3
    refine s5_wordNumber_9 ⟨by decide, fun z => absurd z (by decide), fun _ => ⟨by decide, by decide +kernel, fun _ => ⟨⟨by decide, hx⟩, fun z => t27 n0 n1 n2 n3 z, fun z => ?_⟩, fun z => absurd (by decide +kernel) z⟩⟩
    rw [← z, show cw (wI 68785152) = 4 by decide] at k
    exact k
  have t25 : ¬ 202494450 = x → ¬ 68620288 = x → ¬ 351582208 = x → ¬ 614050816 = x → A5_wordNumber_9 K x 4 3 68780032 25 h := by
    intro n0 n1 n2 n3
    exact s5_wordNumber_9 ⟨by decide, fun z => absurd z (by decide), fun _ => ⟨by decide, by decide +kernel, fun z => absurd z (by decide +kernel), fun _ => s5_letterBits ⟨by decide, fun _ => by rw [show mOr 68780032 (mShl (mCh0 25 - 97 + 1) ((5 - 3) * 5)) = 68785152 by decide +kernel]; exact t26 n0 n1 n2 n3, fun z => absurd (by decide) z⟩⟩⟩
  have t24 : ¬ 202494450 = x → ¬ 68620288 = x → ¬ 351582208 = x → ¬ 614050816 = x → A5_wordNumber_9 K x 4 2 68157440 24 h := by
    intro n0 n1 n2 n3
    exact s5_wordNumber_9 ⟨by decide, fun z => absurd z (by decide), fun _ => ⟨by decide, by decide +kernel, fun z => absurd z (by decide +kernel), fun _ => s5_letterBits ⟨by decide, fun _ => by rw [show mOr 68157440 (mShl (mCh0 24 - 97 + 1) ((5 - 2) * 5)) = 68780032 by decide +kernel]; exact t25 n0 n1 n2 n3, fun z => absurd (by decide) z⟩⟩⟩
  have t23 : ¬ 202494450 = x → ¬ 68620288 = x → ¬ 351582208 = x → ¬ 614050816 = x → A5_wordNumber_9 K x 4 1 67108864 23 h := by
    intro n0 n1 n2 n3
    exact s5_wordNumber_9 ⟨by decide, fun z => absurd z (by decide), fun _ => ⟨by decide, by decide +kernel, fun z => absurd z (by decide +kernel), fun _ => s5_letterBits ⟨by decide, fun _ => by rw [show mOr 67108864 (mShl (mCh0 23 - 97 + 1) ((5 - 1) * 5)) = 68157440 by decide +kernel]; exact t24 n0 n1 n2 n3, fun z => absurd (by decide) z⟩⟩⟩
  have t22 : ¬ 202494450 = x → ¬ 68620288 = x → ¬ 351582208 = x → ¬ 614050816 = x → A5_wordNumber_9 K x 4 0 0 22 h := by
    intro n0 n1 n2 n3
    exact s5_wordNumber_9 ⟨by decide, fun z => absurd z (by decide), fun _ => ⟨by decide, by decide +kernel, fun z => absurd z (by decide +kernel), fun _ => s5_letterBits ⟨by decide, fun _ => by rw [show mOr 0 (mShl (mCh0 22 - 97 + 1) ((5 - 0) * 5)) = 67108864 by decide +kernel]; exact t23 n0 n1 n2 n3, fun z => absurd (by decide) z⟩⟩⟩
  have t21 : ¬ 202494450 = x → ¬ 68620288 = x → ¬ 351582208 = x → A5_wordNumber_9 K x 3 4 614050816 21 h := by
    intro n0 n1 n2
    refine s5_wordNumber_9 ⟨by decide, fun z => absurd z (by decide), fun _ => ⟨by decide, by decide +kernel, fun _ => ⟨⟨by decide, hx⟩, fun z => t22 n0 n1 n2 z, fun z => ?_⟩, fun z => absurd (by decide +kernel) z⟩⟩
    rw [← z, show cw (wI 614050816) = 3 by decide] at k
    exact k
  have t20 : ¬ 202494450 = x → ¬ 68620288 = x → ¬ 351582208 = x → A5_wordNumber_9 K x 3 3 614039552 20 h := by
    intro n0 n1 n2
    exact s5_wordNumber_9 ⟨by decide, fun z => absurd z (by decide), fun _ => ⟨by decide, by decide +kernel, fun z => absurd z (by decide +kernel), fun _ => s5_letterBits ⟨by decide, fun _ => by rw [show mOr 614039552 (mShl (mCh0 20 - 97 + 1) ((5 - 3) * 5)) = 614050816 by decide +kernel]; exact t21 n0 n1 n2, fun z => absurd (by decide) z⟩⟩⟩
  have t19 : ¬ 202494450 = x → ¬ 68620288 = x → ¬ 351582208 = x → A5_wordNumber_9 K x 3 2 613416960 19 h := by
    intro n0 n1 n2
    exact s5_wordNumber_9 ⟨by decide, fun z => absurd z (by decide), fun _ => ⟨by decide, by decide +kernel, fun z => absurd z (by decide +kernel), fun _ => s5_letterBits ⟨by decide, fun _ => by rw [show mOr 613416960 (mShl (mCh0 19 - 97 + 1) ((5 - 2) * 5)) = 614039552 by decide +kernel]; exact t20 n0 n1 n2, fun z => absurd (by decide) z⟩⟩⟩
  have t18 : ¬ 202494450 = x → ¬ 68620288 = x → ¬ 351582208 = x → A5_wordNumber_9 K x 3 1 603979776 18 h := by
    intro n0 n1 n2
    exact s5_wordNumber_9 ⟨by decide, fun z => absurd z (by decide), fun _ => ⟨by decide, by decide +kernel, fun z => absurd z (by decide +kernel), fun _ => s5_letterBits ⟨by decide, fun _ => by rw [show mOr 603979776 (mShl (mCh0 18 - 97 + 1) ((5 - 1) * 5)) = 613416960 by decide +kernel]; exact t19 n0 n1 n2, fun z => absurd (by decide) z⟩⟩⟩
  have t17 : ¬ 202494450 = x → ¬ 68620288 = x → ¬ 351582208 = x → A5_wordNumber_9 K x 3 0 0 17 h := by
    intro n0 n1 n2
    exact s5_wordNumber_9 ⟨by decide, fun z => absurd z (by decide), fun _ => ⟨by decide, by decide +kernel, fun z => absurd z (by decide +kernel), fun _ => s5_letterBits ⟨by decide, fun _ => by rw [show mOr 0 (mShl (mCh0 17 - 97 + 1) ((5 - 0) * 5)) = 603979776 by decide +kernel]; exact t18 n0 n1 n2, fun z => absurd (by decide) z⟩⟩⟩
  have t16 : ¬ 202494450 = x → ¬ 68620288 = x → A5_wordNumber_9 K x 2 4 351582208 16 h := by
    intro n0 n1
    refine s5_wordNumber_9 ⟨by decide, fun z => absurd z (by decide), fun _ => ⟨by decide, by decide +kernel, fun _ => ⟨⟨by decide, hx⟩, fun z => t17 n0 n1 z, fun z => ?_⟩, fun z => absurd (by decide +kernel) z⟩⟩
    rw [← z, show cw (wI 351582208) = 2 by decide] at k
    exact k
  have t15 : ¬ 202494450 = x → ¬ 68620288 = x → A5_wordNumber_9 K x 2 3 351567872 15 h := by
    intro n0 n1
    exact s5_wordNumber_9 ⟨by decide, fun z => absurd z (by decide), fun _ => ⟨by decide, by decide +kernel, fun z => absurd z (by decide +kernel), fun _ => s5_letterBits ⟨by decide, fun _ => by rw [show mOr 351567872 (mShl (mCh0 15 - 97 + 1) ((5 - 3) * 5)) = 351582208 by decide +kernel]; exact t16 n0 n1, fun z => absurd (by decide) z⟩⟩⟩
  have t14 : ¬ 202494450 = x → ¬ 68620288 = x → A5_wordNumber_9 K x 2 2 351272960 14 h := by
    intro n0 n1
    exact s5_wordNumber_9 ⟨by decide, fun z => absurd z (by decide), fun _ => ⟨by decide, by decide +kernel, fun z => absurd z (by decide +kernel), fun _ => s5_letterBits ⟨by decide, fun _ => by rw [show mOr 351272960 (mShl (mCh0 14 - 97 + 1) ((5 - 2) * 5)) = 351567872 by decide +kernel]; exact t15 n0 n1, fun z => absurd (by decide) z⟩⟩⟩
  have t13 : ¬ 202494450 = x → ¬ 68620288 = x → A5_wordNumber_9 K x 2 1 335544320 13 h := by
    intro n0 n1
    exact s5_wordNumber_9 ⟨by decide, fun z => absurd z (by decide), fun _ => ⟨by decide, by decide +kernel, fun z => absurd z (by decide +kernel), fun _ => s5_letterBits ⟨by decide, fun _ => by rw [show mOr 335544320 (mShl (mCh0 13 - 97 + 1) ((5 - 1) * 5)) = 351272960 by decide +kernel]; exact t14 n0 n1, fun z => absurd (by decide) z⟩⟩⟩
  have t12 : ¬ 202494450 = x → ¬ 68620288 = x → A5_wordNumber_9 K x 2 0 0 12 h := by
    intro n0 n1
    exact s5_wordNumber_9 ⟨by decide, fun z => absurd z (by decide), fun _ => ⟨by decide, by decide +kernel, fun z => absurd z (by decide +kernel), fun _ => s5_letterBits ⟨by decide, fun _ => by rw [show mOr 0 (mShl (mCh0 12 - 97 + 1) ((5 - 0) * 5)) = 335544320 by decide +kernel]; exact t13 n0 n1, fun z => absurd (by decide) z⟩⟩⟩
  have t11 : ¬ 202494450 = x → A5_wordNumber_9 K x 1 4 68620288 11 h := by
    intro n0
    refine s5_wordNumber_9 ⟨by decide, fun z => absurd z (by decide), fun _ => ⟨by decide, by decide +kernel, fun _ => ⟨⟨by decide, hx⟩, fun z => t12 n0 z, fun z => ?_⟩, fun z => absurd (by decide +kernel) z⟩⟩
    rw [← z, show cw (wI 68620288) = 1 by decide] at k
    exact k
  have t10 : ¬ 202494450 = x → A5_wordNumber_9 K x 1 3 68616192 10 h := by
    intro n0
    exact s5_wordNumber_9 ⟨by decide, fun z => absurd z (by decide), fun _ => ⟨by decide, by decide +kernel, fun z => absurd z (by decide +kernel), fun _ => s5_letterBits ⟨by decide, fun _ => by rw [show mOr 68616192 (mShl (mCh0 10 - 97 + 1) ((5 - 3) * 5)) = 68620288 by decide +kernel]; exact t11 n0, fun z => absurd (by decide) z⟩⟩⟩
  have t9 : ¬ 202494450 = x → A5_wordNumber_9 K x 1 2 68157440 9 h := by
    intro n0
    exact s5_wordNumber_9 ⟨by decide, fun z => absurd z (by decide), fun _ => ⟨by decide, by decide +kernel, fun z => absurd z (by decide +kernel), fun _ => s5_letterBits ⟨by decide, fun _ => by rw [show mOr 68157440 (mShl (mCh0 9 - 97 + 1) ((5 - 2) * 5)) = 68616192 by decide +kernel]; exact t10 n0, fun z => absurd (by decide) z⟩⟩⟩
  have t8 : ¬ 202494450 = x → A5_wordNumber_9 K x 1 1 67108864 8 h := by
    intro n0
    exact s5_wordNumber_9 ⟨by decide, fun z => absurd z (by decide), fun _ => ⟨by decide, by decide +kernel, fun z => absurd z (by decide +kernel), fun _ => s5_letterBits ⟨by decide, fun _ => by rw [show mOr 67108864 (mShl (mCh0 8 - 97 + 1) ((5 - 1) * 5)) = 68157440 by decide +kernel]; exact t9 n0, fun z => absurd (by decide) z⟩⟩⟩
  have t7 : ¬ 202494450 = x → A5_wordNumber_9 K x 1 0 0 7 h := by
    intro n0
    exact s5_wordNumber_9 ⟨by decide, fun z => absurd z (by decide), fun _ => ⟨by decide, by decide +kernel, fun z => absurd z (by decide +kernel), fun _ => s5_letterBits ⟨by decide, fun _ => by rw [show mOr 0 (mShl (mCh0 7 - 97 + 1) ((5 - 0) * 5)) = 67108864 by decide +kernel]; exact t8 n0, fun z => absurd (by decide) z⟩⟩⟩
  have t6 : A5_wordNumber_9 K x 0 6 202494450 6 h := by
    refine s5_wordNumber_9 ⟨by decide, fun z => absurd z (by decide), fun _ => ⟨by decide, by decide +kernel, fun _ => ⟨⟨by decide, hx⟩, fun z => t7  z, fun z => ?_⟩, fun z => absurd (by decide +kernel) z⟩⟩
    rw [← z, show cw (wI 202494450) = 0 by decide] at k
    exact k
  have t5 : A5_wordNumber_9 K x 0 5 202494432 5 h := by
    exact s5_wordNumber_9 ⟨by decide, fun z => absurd z (by decide), fun _ => ⟨by decide, by decide +kernel, fun z => absurd z (by decide +kernel), fun _ => s5_letterBits ⟨by decide, fun _ => by rw [show mOr 202494432 (mShl (mCh0 5 - 97 + 1) ((5 - 5) * 5)) = 202494450 by decide +kernel]; exact t6 , fun z => absurd (by decide) z⟩⟩⟩
  have t4 : A5_wordNumber_9 K x 0 4 202493952 4 h := by
    exact s5_wordNumber_9 ⟨by decide, fun z => absurd z (by decide), fun _ => ⟨by decide, by decide +kernel, fun z => absurd z (by decide +kernel), fun _ => s5_letterBits ⟨by decide, fun _ => by rw [show mOr 202493952 (mShl (mCh0 4 - 97 + 1) ((5 - 4) * 5)) = 202494432 by decide +kernel]; exact t5 , fun z => absurd (by decide) z⟩⟩⟩
  have t3 : A5_wordNumber_9 K x 0 3 202473472 3 h := by
    exact s5_wordNumber_9 ⟨by decide, fun z => absurd z (by decide), fun _ => ⟨by decide, by decide +kernel, fun z => absurd z (by decide +kernel), fun _ => s5_letterBits ⟨by decide, fun _ => by rw [show mOr 202473472 (mShl (mCh0 3 - 97 + 1) ((5 - 3) * 5)) = 202493952 by decide +kernel]; exact t4 , fun z => absurd (by decide) z⟩⟩⟩
  have t2 : A5_wordNumber_9 K x 0 2 202375168 2 h := by
    exact s5_wordNumber_9 ⟨by decide, fun z => absurd z (by decide), fun _ => ⟨by decide, by decide +kernel, fun z => absurd z (by decide +kernel), fun _ => s5_letterBits ⟨by decide, fun _ => by rw [show mOr 202375168 (mShl (mCh0 2 - 97 + 1) ((5 - 2) * 5)) = 202473472 by decide +kernel]; exact t3 , fun z => absurd (by decide) z⟩⟩⟩
  have t1 : A5_wordNumber_9 K x 0 1 201326592 1 h := by
    exact s5_wordNumber_9 ⟨by decide, fun z => absurd z (by decide), fun _ => ⟨by decide, by decide +kernel, fun z => absurd z (by decide +kernel), fun _ => s5_letterBits ⟨by decide, fun _ => by rw [show mOr 201326592 (mShl (mCh0 1 - 97 + 1) ((5 - 1) * 5)) = 202375168 by decide +kernel]; exact t2 , fun z => absurd (by decide) z⟩⟩⟩
  have t0 : A5_wordNumber_9 K x 0 0 0 0 h := by
    exact s5_wordNumber_9 ⟨by decide, fun z => absurd z (by decide), fun _ => ⟨by decide, by decide +kernel, fun z => absurd z (by decide +kernel), fun _ => s5_letterBits ⟨by decide, fun _ => by rw [show mOr 0 (mShl (mCh0 0 - 97 + 1) ((5 - 0) * 5)) = 201326592 by decide +kernel]; exact t1 , fun z => absurd (by decide) z⟩⟩⟩
  exact s5_wordNumber t0
/-! the reference's: one word after the other -/
theorem c7_skip {K : Int → mH → Prop} {m k L x : Int} (hk : 0 ≤ k) (hL : 0 ≤ L) (h54 : k + L < 54) (hch : ∀ i, 0 ≤ i → i < L → mCh1 (k + i) ≠ 32) (hbl : mCh1 (k + L) = 32) (kf : A7_wordHere_4 K (m + 1) (k + L + 1) h) : A7_wordHere_97 K m k x h := by
  have key := upI (P := fun j => A7_wordHere_97 K m (k + j) x h) (n := L) ?_ (fun j h5 h6 ih => ?_) 0 (by omega) (by omega)
  · rw [show k + 0 = k by omega] at key; exact key
  · exact s7_wordHere_97 ⟨by omega, by rw [hbl]; decide, fun _ => kf, fun z => absurd hbl z⟩
  · have hb := mCh_b (i := 1) (by decide) (x := k + j) (by omega) (by omega)
    refine s7_wordHere_97 ⟨by omega, by unfold mCh1; omega, fun z => absurd z (hch j h5 h6), fun _ => ?_⟩
    rw [show k + j + 1 = k + (j + 1) by omega]
    exact ih
/-- the word at k is the text from q to e -/
def wM (t : Int → Int) (q e k L : Int) : Prop := e - q = L ∧ ∀ i, 0 ≤ i → i < L → t (q + i) = mCh1 (k + i)
theorem c7_word {K : Int → mH → Prop} {m k L q e : Int} (hq : h 30 0 15 = q) (he : h 30 0 14 = e) (hqe : 0 ≤ q ∧ q ≤ e ∧ e ≤ 900) (ht : ∀ j, q ≤ j → j < e → h 31 0 j = t j ∧ 0 ≤ t j ∧ t j ≤ 255) (hk : 0 ≤ k) (hL : 0 ≤ L) (h54 : k + L < 54) (hch : ∀ i, 0 ≤ i → i < L → mCh1 (k + i) ≠ 32) (hbl : mCh1 (k + L) = 32) (kt : wM t q e k L → K m h) (kf : ¬ wM t q e k L → A7_wordHere_4 K (m + 1) (k + L + 1) h) : A7_wordHere_4 K m k h := by
  refine s7_wordHere_4 ⟨by omega, fun z => by omega, fun _ => ?_⟩
  have no : ∀ x, ¬ wM t q e k L → A7_wordHere_97 K m k x h := fun x z => c7_skip hk hL h54 hch hbl (kf z)
  have key := upI (P := fun i => q + i ≤ e → (∀ j, 0 ≤ j → j < i → t (q + j) = mCh1 (k + j)) → A7_wordHere_15 K m k i h) (n := L) ?_ (fun i h5 h6 ih => ?_) 0 (by omega) (by omega)
  · exact key (by omega) (fun j a b => by omega)
  · intro h7 h8
    refine s7_wordHere_15 ⟨by omega, by rw [hbl]; decide, fun _ => ?_, fun z => absurd hbl z⟩
    refine s7_wordHere_69 ⟨by omega, by rw [hbl]; decide, fun z => absurd hbl z, fun _ => ?_⟩
    rw [hq, he]
    exact ⟨by omega, fun z => no _ (fun w => z (by have := w.1; omega)), fun z => kt ⟨by omega, h8⟩⟩
  · intro h7 h8
    have hb := mCh_b (i := 1) (by decide) (x := k + i) (by omega) (by omega)
    have hb2 : 0 ≤ mCh1 (k + i) ∧ mCh1 (k + i) ≤ 127 := hb
    have bad : ¬ wM t q e k L → A7_wordHere_69 K m k i h := fun w => s7_wordHere_69 ⟨by omega, by omega, fun _ => no _ w, fun z => absurd z (hch i h5 h6)⟩
    refine s7_wordHere_15 ⟨by omega, by omega, fun z => absurd z (hch i h5 h6), fun _ => ?_⟩
    rw [hq, he]
    refine ⟨by omega, fun z => bad (fun w => by have := w.1; omega), fun z => ⟨by omega, by omega, ?_⟩⟩
    have htj := ht (q + i) (by omega) (by omega)
    rw [htj.1]
    refine ⟨by omega, fun z2 => bad (fun w => z2 (w.2 i h5 h6)), fun z2 => ih (by omega) (fun j a b => ?_)⟩
    by_cases c : j = i
    · rw [c]; exact z2
    · exact h8 j a (by omega)
def wG (k L j : Int) : Int := if j < L then mCh1 (k + j) - 96 else 0
theorem wM_iff {q e k L c : Int} (hL : 1 ≤ L ∧ L ≤ 6) (hl : ∀ j, q ≤ j → j < e → isL (t j) = true) (hc : ∀ i, 0 ≤ i → i < L → 97 ≤ mCh1 (k + i) ∧ mCh1 (k + i) ≤ 122) (ec : wG k L 0 * 33554432 + wG k L 1 * 1048576 + wG k L 2 * 32768 + wG k L 3 * 1024 + wG k L 4 * 32 + wG k L 5 = c) : wM t q e k L ↔ (e - q ≤ 6 ∧ pk5 t q e = c) := by
  have a := fun j hj => lt5_bd (t := t) hl j hj
  have g : ∀ j, 0 ≤ j → 0 ≤ wG k L j ∧ wG k L j ≤ 26 := by
    intro j hj
    unfold wG
    by_cases z : j < L
    · rw [if_pos z]; have := hc j hj z; omega
    · rw [if_neg z]; decide
  constructor
  · intro w
    have eq : ∀ j, 0 ≤ j → lt5 t q e j = wG k L j := by
      intro j hj
      unfold lt5 wG
      have := w.1
      by_cases z : j < L
      · rw [if_pos z, if_pos (by omega), w.2 j hj z]
      · rw [if_neg z, if_neg (by omega)]
    refine ⟨by have := w.1; omega, ?_⟩
    unfold pk5
    rw [eq 0 (by decide), eq 1 (by decide), eq 2 (by decide), eq 3 (by decide), eq 4 (by decide), eq 5 (by decide)]
    exact ec
  · rintro ⟨w1, w2⟩
    unfold pk5 at w2
    have a0 := a 0 (by decide)
    have a1 := a 1 (by decide)
    have a2 := a 2 (by decide)
    have a3 := a 3 (by decide)
    have a4 := a 4 (by decide)
    have a5 := a 5 (by decide)
    have g0 := g 0 (by decide)
    have g1 := g 1 (by decide)
    have g2 := g 2 (by decide)
    have g3 := g 3 (by decide)
    have g4 := g 4 (by decide)
    have g5 := g 5 (by decide)
    have e0 : lt5 t q e 0 = wG k L 0 := by omega
    have e1 : lt5 t q e 1 = wG k L 1 := by omega
    have e2 : lt5 t q e 2 = wG k L 2 := by omega
    have e3 : lt5 t q e 3 = wG k L 3 := by omega
    have e4 : lt5 t q e 4 = wG k L 4 := by omega
    have e5 : lt5 t q e 5 = wG k L 5 := by omega
    have eq : ∀ j, 0 ≤ j → j ≤ 5 → lt5 t q e j = wG k L j := by
      intro j b0 b1
      have : j = 0 ∨ j = 1 ∨ j = 2 ∨ j = 3 ∨ j = 4 ∨ j = 5 := by omega
      rcases this with rfl | rfl | rfl | rfl | rfl | rfl <;> assumption
    have yes : ∀ i, 0 ≤ i → i < L → q + i < e ∧ t (q + i) = mCh1 (k + i) := by
      intro i b0 b1
      have h1 := eq i b0 (by omega)
      have h2 := hc i b0 b1
      unfold lt5 wG at h1
      rw [if_pos b1] at h1
      by_cases z : q + i < e
      · rw [if_pos z] at h1; exact ⟨z, by omega⟩
      · rw [if_neg z] at h1; omega
    have h3 := (yes (L - 1) (by omega) (by omega)).1
    refine ⟨?_, fun i b0 b1 => (yes i b0 b1).2⟩
    by_cases z : L = 6
    · omega
    · have h1 := eq L (by omega) (by omega)
      unfold lt5 wG at h1
      rw [if_neg (Int.lt_irrefl L)] at h1
      by_cases z2 : q + L < e
      · rw [if_pos z2] at h1
        have := isL_t.1 (hl (q + L) (by omega) z2)
        omega
      · omega
theorem ch1_all {k L : Int} {P : Int → Prop} (hL : 0 ≤ L) (hs : ∀ i : Fin 6, (i.val : Int) < L → P (mCh1 (k + (i.val : Int)))) (h6 : L ≤ 6) : ∀ i, 0 ≤ i → i < L → P (mCh1 (k + i)) := by
  intro i a b
  have := hs ⟨i.toNat, by omega⟩ (by show (i.toNat : Int) < L; omega)
  simp only [Int.toNat_of_nonneg a] at this
  exact this
theorem c7_wordHere {K : Int → mH → Prop} {q e : Int} (hq : h 30 0 15 = q) (he : h 30 0 14 = e) (hqe : 0 ≤ q ∧ q ≤ e ∧ e ≤ 900) (ht : ∀ j, q ≤ j → j < e → h 31 0 j = t j ∧ isL (t j) = true) (k : K (wN t q e) h) : OkI M7_wordHere [mR 30 0] h K := by
  have hl : ∀ j, q ≤ j → j < e → isL (t j) = true := fun j a b => (ht j a b).2
  have ht2 : ∀ j, q ≤ j → j < e → h 31 0 j = t j ∧ 0 ≤ t j ∧ t j ≤ 255 := fun j a b => ⟨(ht j a b).1, by have := isL_t.1 (hl j a b); omega⟩
  have i0 : wM t q e 0 4 ↔ (e - q ≤ 6 ∧ pk5 t q e = 68785152) := wM_iff (by decide) hl (ch1_all (P := fun v => 97 ≤ v ∧ v ≤ 122) (by decide) (by decide +kernel) (by decide)) (by decide +kernel)
  have i1 : wM t q e 5 5 ↔ (e - q ≤ 6 ∧ pk5 t q e = 83540096) := wM_iff (by decide) hl (ch1_all (P := fun v => 97 ≤ v ∧ v ≤ 122) (by decide) (by decide +kernel) (by decide)) (by decide +kernel)
  have i2 : wM t q e 11 3 ↔ (e - q ≤ 6 ∧ pk5 t q e = 102236160) := wM_iff (by decide) hl (ch1_all (P := fun v => 97 ≤ v ∧ v ≤ 122) (by decide) (by decide +kernel) (by decide)) (by decide +kernel)
  have i3 : wM t q e 15 4 ↔ (e - q ≤ 6 ∧ pk5 t q e = 642945024) := wM_iff (by decide) hl (ch1_all (P := fun v => 97 ≤ v ∧ v ≤ 122) (by decide) (by decide +kernel) (by decide)) (by decide +kernel)
  have i4 : wM t q e 20 5 ↔ (e - q ≤ 6 ∧ pk5 t q e = 690671232) := wM_iff (by decide) hl (ch1_all (P := fun v => 97 ≤ v ∧ v ≤ 122) (by decide) (by decide +kernel) (by decide)) (by decide +kernel)
  have i5 : wM t q e 26 5 ↔ (e - q ≤ 6 ∧ pk5 t q e = 214079104) := wM_iff (by decide) hl (ch1_all (P := fun v => 97 ≤ v ∧ v ≤ 122) (by decide) (by decide +kernel) (by decide)) (by decide +kernel)
  have i6 : wM t q e 32 6 ↔ (e - q ≤ 6 ∧ pk5 t q e = 202494450) := wM_iff (by decide) hl (ch1_all (P := fun v => 97 ≤ v ∧ v ≤ 122) (by decide) (by decide +kernel) (by decide)) (by decide +kernel)
  have i7 : wM t q e 39 4 ↔ (e - q ≤ 6 ∧ pk5 t q e = 68620288) := wM_iff (by decide) hl (ch1_all (P := fun v => 97 ≤ v ∧ v ≤ 122) (by decide) (by decide +kernel) (by decide)) (by decide +kernel)
  have i8 : wM t q e 44 4 ↔ (e - q ≤ 6 ∧ pk5 t q e = 351582208) := wM_iff (by decide) hl (ch1_all (P := fun v => 97 ≤ v ∧ v ≤ 122) (by decide) (by decide +kernel) (by decide)) (by decide +kernel)
  have i9 : wM t q e 49 4 ↔ (e - q ≤ 6 ∧ pk5 t q e = 614050816) := wM_iff (by decide) hl (ch1_all (P := fun v => 97 ≤ v ∧ v ≤ 122) (by decide) (by decide +kernel) (by decide)) (by decide +kernel)
  have t10 : ¬ wM t q e 0 4 → ¬ wM t q e 5 5 → ¬ wM t q e 11 3 → ¬ wM t q e 15 4 → ¬ wM t q e 20 5 → ¬ wM t q e 26 5 → ¬ wM t q e 32 6 → ¬ wM t q e 39 4 → ¬ wM t q e 44 4 → ¬ wM t q e 49 4 → A7_wordHere_4 K 10 54 h := by
    intro n0 n1 n2 n3 n4 n5 n6 n7 n8 n9
    have ew : wN t q e = -1 := by
      unfold wN
      by_cases z : 6 < e - q
      · rw [if_pos z]
      · rw [if_neg z]
        unfold wI
        rw [if_neg (fun w => n0 (i0.2 ⟨by omega, w⟩)), if_neg (fun w => n1 (i1.2 ⟨by omega, w⟩)), if_neg (fun w => n2 (i2.2 ⟨by omega, w⟩)), if_neg (fun w => n3 (i3.2 ⟨by omega, w⟩)), if_neg (fun w => n4 (i4.2 ⟨by omega, w⟩)), if_neg (fun w => n5 (i5.2 ⟨by omega, w⟩)), if_neg (fun w => n6 (i6.2 ⟨by omega, w⟩)), if_neg (fun w => n7 (i7.2 ⟨by omega, w⟩)), if_neg (fun w => n8 (i8.2 ⟨by omega, w⟩)), if_neg (fun w => n9 (i9.2 ⟨by omega, w⟩))]
    rw [ew] at k
    exact s7_wordHere_4 ⟨by decide, fun _ => k, fun z => absurd (by decide) z⟩
  have t9 : ¬ wM t q e 0 4 → ¬ wM t q e 5 5 → ¬ wM t q e 11 3 → ¬ wM t q e 15 4 → ¬ wM t q e 20 5 → ¬ wM t q e 26 5 → ¬ wM t q e 32 6 → ¬ wM t q e 39 4 → ¬ wM t q e 44 4 → A7_wordHere_4 K 9 49 h := by
    intro n0 n1 n2 n3 n4 n5 n6 n7 n8
    refine c7_word (t := t) (L := 4) hq he hqe ht2 (by decide) (by decide) (by decide) (ch1_all (P := fun v => v ≠ 32) (by decide) (by decide +kernel) (by decide)) (by decide +kernel) (fun z => ?_) (fun z => t10 n0 n1 n2 n3 n4 n5 n6 n7 n8 z)
    have z2 := i9.1 z
    unfold wN at k
    rw [if_neg (by omega), z2.2, show wI 614050816 = 9 by decide] at k
    exact k
  have t8 : ¬ wM t q e 0 4 → ¬ wM t q e 5 5 → ¬ wM t q e 11 3 → ¬ wM t q e 15 4 → ¬ wM t q e 20 5 → ¬ wM t q e 26 5 → ¬ wM t q e 32 6 → ¬ wM t q e 39 4 → A7_wordHere_4 K 8 44 h := by
    intro n0 n1 n2 n3 n4 n5 n6 n7
    refine c7_word (t := t) (L := 4) hq he hqe ht2 (by decide) (by decide) (by decide) (ch1_all (P := fun v => v ≠ 32) (by decide) (by decide +kernel) (by decide)) (by decide +kernel) (fun z => ?_) (fun z => t9 n0 n1 n2 n3 n4 n5 n6 n7 z)
    have z2 := i8.1 z
    unfold wN at k
    rw [if_neg (by omega), z2.2, show wI 351582208 = 8 by decide] at k
    exact k
  have t7 : ¬ wM t q e 0 4 → ¬ wM t q e 5 5 → ¬ wM t q e 11 3 → ¬ wM t q e 15 4 → ¬ wM t q e 20 5 → ¬ wM t q e 26 5 → ¬ wM t q e 32 6 → A7_wordHere_4 K 7 39 h := by
    intro n0 n1 n2 n3 n4 n5 n6
    refine c7_word (t := t) (L := 4) hq he hqe ht2 (by decide) (by decide) (by decide) (ch1_all (P := fun v => v ≠ 32) (by decide) (by decide +kernel) (by decide)) (by decide +kernel) (fun z => ?_) (fun z => t8 n0 n1 n2 n3 n4 n5 n6 z)
    have z2 := i7.1 z
    unfold wN at k
    rw [if_neg (by omega), z2.2, show wI 68620288 = 7 by decide] at k
    exact k
  have t6 : ¬ wM t q e 0 4 → ¬ wM t q e 5 5 → ¬ wM t q e 11 3 → ¬ wM t q e 15 4 → ¬ wM t q e 20 5 → ¬ wM t q e 26 5 → A7_wordHere_4 K 6 32 h := by
    intro n0 n1 n2 n3 n4 n5
    refine c7_word (t := t) (L := 6) hq he hqe ht2 (by decide) (by decide) (by decide) (ch1_all (P := fun v => v ≠ 32) (by decide) (by decide +kernel) (by decide)) (by decide +kernel) (fun z => ?_) (fun z => t7 n0 n1 n2 n3 n4 n5 z)
    have z2 := i6.1 z
    unfold wN at k
    rw [if_neg (by omega), z2.2, show wI 202494450 = 6 by decide] at k
    exact k
  have t5 : ¬ wM t q e 0 4 → ¬ wM t q e 5 5 → ¬ wM t q e 11 3 → ¬ wM t q e 15 4 → ¬ wM t q e 20 5 → A7_wordHere_4 K 5 26 h := by
    intro n0 n1 n2 n3 n4
    refine c7_word (t := t) (L := 5) hq he hqe ht2 (by decide) (by decide) (by decide) (ch1_all (P := fun v => v ≠ 32) (by decide) (by decide +kernel) (by decide)) (by decide +kernel) (fun z => ?_) (fun z => t6 n0 n1 n2 n3 n4 z)
    have z2 := i5.1 z
    unfold wN at k
    rw [if_neg (by omega), z2.2, show wI 214079104 = 5 by decide] at k
    exact k
  have t4 : ¬ wM t q e 0 4 → ¬ wM t q e 5 5 → ¬ wM t q e 11 3 → ¬ wM t q e 15 4 → A7_wordHere_4 K 4 20 h := by
    intro n0 n1 n2 n3
    refine c7_word (t := t) (L := 5) hq he hqe ht2 (by decide) (by decide) (by decide) (ch1_all (P := fun v => v ≠ 32) (by decide) (by decide +kernel) (by decide)) (by decide +kernel) (fun z => ?_) (fun z => t5 n0 n1 n2 n3 z)
    have z2 := i4.1 z
    unfold wN at k
    rw [if_neg (by omega), z2.2, show wI 690671232 = 4 by decide] at k
    exact k
  have t3 : ¬ wM t q e 0 4 → ¬ wM t q e 5 5 → ¬ wM t q e 11 3 → A7_wordHere_4 K 3 15 h := by
    intro n0 n1 n2
    refine c7_word (t := t) (L := 4) hq he hqe ht2 (by decide) (by decide) (by decide) (ch1_all (P := fun v => v ≠ 32) (by decide) (by decide +kernel) (by decide)) (by decide +kernel) (fun z => ?_) (fun z => t4 n0 n1 n2 z)
    have z2 := i3.1 z
    unfold wN at k
    rw [if_neg (by omega), z2.2, show wI 642945024 = 3 by decide] at k
    exact k
  have t2 : ¬ wM t q e 0 4 → ¬ wM t q e 5 5 → A7_wordHere_4 K 2 11 h := by
    intro n0 n1
    refine c7_word (t := t) (L := 3) hq he hqe ht2 (by decide) (by decide) (by decide) (ch1_all (P := fun v => v ≠ 32) (by decide) (by decide +kernel) (by decide)) (by decide +kernel) (fun z => ?_) (fun z => t3 n0 n1 z)
    have z2 := i2.1 z
    unfold wN at k
    rw [if_neg (by omega), z2.2, show wI 102236160 = 2 by decide] at k
    exact k
  have t1 : ¬ wM t q e 0 4 → A7_wordHere_4 K 1 5 h := by
    intro n0
    refine c7_word (t := t) (L := 5) hq he hqe ht2 (by decide) (by decide) (by decide) (ch1_all (P := fun v => v ≠ 32) (by decide) (by decide +kernel) (by decide)) (by decide +kernel) (fun z => ?_) (fun z => t2 n0 z)
    have z2 := i1.1 z
    unfold wN at k
    rw [if_neg (by omega), z2.2, show wI 83540096 = 1 by decide] at k
    exact k
  have t0 : A7_wordHere_4 K 0 0 h := by
    refine c7_word (t := t) (L := 4) hq he hqe ht2 (by decide) (by decide) (by decide) (ch1_all (P := fun v => v ≠ 32) (by decide) (by decide +kernel) (by decide)) (by decide +kernel) (fun z => ?_) (fun z => t1  z)
    have z2 := i0.1 z
    unfold wN at k
    rw [if_neg (by omega), z2.2, show wI 68785152 = 0 by decide] at k
    exact k
  exact s7_wordHere t0
end WORDS
