/-! a text: what its tokens are, t the tape, n how many bytes -/
def skN (P : Int → Bool) (t : Int → Int) : Nat → Int → Int
  | 0, i => i
  | m + 1, i => if P (t i) then skN P t m (i + 1) else i
/-- the first place from i on where P isn't so -/
def sk (P : Int → Bool) (t : Int → Int) (n i : Int) : Int := skN P t (n - i).toNat i
section LEX
variable {P : Int → Bool} {t : Int → Int} {n i : Int}
theorem sk_e (h : n ≤ i) : sk P t n i = i := by
  unfold sk
  rw [show (n - i).toNat = 0 by omega]
  rfl
theorem sk_y (h : i < n) (hP : P (t i) = true) : sk P t n i = sk P t n (i + 1) := by
  unfold sk
  rw [show (n - i).toNat = (n - (i + 1)).toNat + 1 by omega]
  show (if P (t i) then skN P t (n - (i + 1)).toNat (i + 1) else i) = _
  rw [if_pos hP]
theorem sk_n (hP : P (t i) = false) : sk P t n i = i := by
  unfold sk
  cases (n - i).toNat with
  | zero => rfl
  | succ m =>
    show (if P (t i) then skN P t m (i + 1) else i) = i
    rw [hP]; rfl
theorem skN_bd (P : Int → Bool) (t : Int → Int) : ∀ (m : Nat) (i : Int), i ≤ skN P t m i ∧ skN P t m i ≤ i + m ∧ (∀ j, i ≤ j → j < skN P t m i → P (t j) = true) ∧ (skN P t m i < i + m → P (t (skN P t m i)) = false)
  | 0, i => ⟨by show i ≤ i; omega, by show i ≤ i + 0; omega, fun j a b => by have : j < i := b; omega, fun z => by have : i < i + 0 := z; omega⟩
  | m + 1, i => by
    have ih := skN_bd P t m (i + 1)
    by_cases c : P (t i) = true
    · have e : skN P t (m + 1) i = skN P t m (i + 1) := if_pos c
      rw [e]
      refine ⟨by omega, by omega, fun j a b => ?_, fun z => ih.2.2.2 (by omega)⟩
      by_cases w : j = i
      · rw [w]; exact c
      · exact ih.2.2.1 j (by omega) b
    · have e : skN P t (m + 1) i = i := if_neg c
      rw [e]
      refine ⟨by omega, by omega, fun j a b => by omega, fun _ => ?_⟩
      cases h : P (t i)
      · rfl
      · exact absurd h c
theorem sk_bd (h : i ≤ n) : i ≤ sk P t n i ∧ sk P t n i ≤ n := by
  have := skN_bd P t (n - i).toNat i
  unfold sk
  omega
theorem sk_all {j : Int} (a : i ≤ j) (b : j < sk P t n i) : P (t j) = true := (skN_bd P t (n - i).toNat i).2.2.1 j a b
theorem sk_stop (h : sk P t n i < n) (h0 : i ≤ n) : P (t (sk P t n i)) = false := (skN_bd P t (n - i).toNat i).2.2.2 (by unfold sk at h; omega)
theorem sk_mid {j : Int} (a : i ≤ j) (b : j ≤ sk P t n i) (h : i ≤ n) : sk P t n j = sk P t n i := by
  have key : ∀ m : Nat, i + m ≤ sk P t n i → sk P t n (i + m) = sk P t n i := by
    intro m
    induction m with
    | zero => intro _; rw [show i + ((0 : Nat) : Int) = i by omega]
    | succ m ih =>
      intro hm
      have hb := sk_bd (P := P) (t := t) h
      rw [← ih (by omega), sk_y (i := i + m) (by omega) (sk_all (n := n) (i := i) (by omega) (by omega)), show i + ((m + 1 : Nat) : Int) = i + m + 1 by omega]
  have := key (j - i).toNat (by omega)
  rw [show i + ((j - i).toNat : Int) = j by omega] at this
  exact this
end LEX
def isB (c : Int) : Bool := decide (c = 10 ∨ c = 32)
def isL (c : Int) : Bool := decide (97 ≤ c ∧ c ≤ 122)
def isD (c : Int) : Bool := decide (48 ≤ c ∧ c ≤ 57)
theorem isB_t {c : Int} : isB c = true ↔ (c = 10 ∨ c = 32) := by unfold isB; simp
theorem isL_t {c : Int} : isL c = true ↔ (97 ≤ c ∧ c ≤ 122) := by unfold isL; simp
theorem isD_t {c : Int} : isD c = true ↔ (48 ≤ c ∧ c ≤ 57) := by unfold isD; simp
theorem isB_f {c : Int} : isB c = false ↔ ¬ (c = 10 ∨ c = 32) := by unfold isB; simp
theorem isL_f {c : Int} : isL c = false ↔ ¬ (97 ≤ c ∧ c ≤ 122) := by unfold isL; simp
theorem isD_f {c : Int} : isD c = false ↔ ¬ (48 ≤ c ∧ c ≤ 57) := by unfold isD; simp
/-- a number's value, from i on, behind a -/
def nvlN (t : Int → Int) : Nat → Int → Int → Int
  | 0, _, a => a
  | m + 1, i, a => if isD (t i) then nvlN t m (i + 1) (if 99999 < a then a else 10 * a + t i - 48) else a
def nvl (t : Int → Int) (n i a : Int) : Int := nvlN t (n - i).toNat i a
theorem nvl_e {t : Int → Int} {n i a : Int} (h : n ≤ i) : nvl t n i a = a := by
  unfold nvl
  rw [show (n - i).toNat = 0 by omega]
  rfl
theorem nvl_y {t : Int → Int} {n i a : Int} (h : i < n) (hP : isD (t i) = true) : nvl t n i a = nvl t n (i + 1) (if 99999 < a then a else 10 * a + t i - 48) := by
  unfold nvl
  rw [show (n - i).toNat = (n - (i + 1)).toNat + 1 by omega]
  show (if isD (t i) then nvlN t (n - (i + 1)).toNat (i + 1) (if 99999 < a then a else 10 * a + t i - 48) else a) = _
  rw [if_pos hP]
theorem nvl_n {t : Int → Int} {n i a : Int} (hP : isD (t i) = false) : nvl t n i a = a := by
  unfold nvl
  cases (n - i).toNat with
  | zero => rfl
  | succ m =>
    show (if isD (t i) then nvlN t m (i + 1) (if 99999 < a then a else 10 * a + t i - 48) else a) = a
    rw [hP]; rfl
/-- letter j of the word from q to e -/
def lt5 (t : Int → Int) (q e j : Int) : Int := if q + j < e then t (q + j) - 96 else 0
def pk5 (t : Int → Int) (q e : Int) : Int := lt5 t q e 0 * 33554432 + lt5 t q e 1 * 1048576 + lt5 t q e 2 * 32768 + lt5 t q e 3 * 1024 + lt5 t q e 4 * 32 + lt5 t q e 5
/-- which word has these letters -/
def wI (x : Int) : Int := if x = 68785152 then 0 else if x = 83540096 then 1 else if x = 102236160 then 2 else if x = 642945024 then 3 else if x = 690671232 then 4 else if x = 214079104 then 5 else if x = 202494450 then 6 else if x = 68620288 then 7 else if x = 351582208 then 8 else if x = 614050816 then 9 else -1
def wN (t : Int → Int) (q e : Int) : Int := if 6 < e - q then -1 else wI (pk5 t q e)
/-! a token: where it is, where it ends, of what sort, what it says -/
def tP (t : Int → Int) (n i : Int) : Int := sk isB t n i
def tEq (t : Int → Int) (n q : Int) : Int := if n ≤ q then q else if isL (t q) then sk isL t n q else if isD (t q) then sk isD t n q else q + 1
def tSq (t : Int → Int) (n q : Int) : Int := if n ≤ q then 4 else if isL (t q) then (if wN t q (sk isL t n q) = -1 then (if 6 < sk isL t n q - q then 5 else 1) else 0) else if isD (t q) then 2 else if t q = 59 then 3 else 5
def tVq (t : Int → Int) (n q : Int) : Int := if isL (t q) then (if wN t q (sk isL t n q) = -1 then pk5 t q (sk isL t n q) else wN t q (sk isL t n q)) else nvl t n q 0
def tE (t : Int → Int) (n i : Int) : Int := tEq t n (tP t n i)
def tS (t : Int → Int) (n i : Int) : Int := tSq t n (tP t n i)
def tV (t : Int → Int) (n i : Int) : Int := tVq t n (tP t n i)
def TpOk (t : Int → Int) (n : Int) : Prop := (0 ≤ n ∧ n ≤ 900) ∧ ∀ j, 0 ≤ j → j < n → 0 ≤ t j ∧ t j ≤ 255
section TOK
variable {t : Int → Int} {n i : Int}
theorem tP_bd (h : i ≤ n) : i ≤ tP t n i ∧ tP t n i ≤ n := sk_bd h
theorem tE_bd (h : i ≤ n) : tP t n i ≤ tE t n i ∧ tE t n i ≤ n ∧ (tS t n i ≠ 4 → tP t n i < tE t n i) := by
  have hb := tP_bd (t := t) h
  unfold tE tEq tS tSq
  by_cases c : n ≤ tP t n i
  · rw [if_pos c, if_pos c]; exact ⟨by omega, by omega, fun z => absurd rfl z⟩
  · rw [if_neg c]
    by_cases d : isL (t (tP t n i)) = true
    · have b2 := sk_bd (P := isL) (t := t) (n := n) (i := tP t n i) (by omega)
      have b3 := sk_bd (P := isL) (t := t) (n := n) (i := tP t n i + 1) (by omega)
      have b4 := sk_y (n := n) (by omega) d
      rw [if_pos d]
      exact ⟨by omega, by omega, fun _ => by omega⟩
    · rw [if_neg d]
      by_cases g : isD (t (tP t n i)) = true
      · have b2 := sk_bd (P := isD) (t := t) (n := n) (i := tP t n i) (by omega)
        have b3 := sk_bd (P := isD) (t := t) (n := n) (i := tP t n i + 1) (by omega)
        have b4 := sk_y (n := n) (by omega) g
        rw [if_pos g]
        exact ⟨by omega, by omega, fun _ => by omega⟩
      · rw [if_neg g]
        exact ⟨by omega, by omega, fun _ => by omega⟩
theorem wI_bd (x : Int) : -1 ≤ wI x ∧ wI x ≤ 9 := by
  unfold wI
  repeat' split
  all_goals decide
theorem wN_bd (q e : Int) : -1 ≤ wN t q e ∧ wN t q e ≤ 9 := by
  unfold wN
  split
  · decide
  · exact wI_bd _
theorem lt5_bd {q e : Int} (hL : ∀ j, q ≤ j → j < e → isL (t j) = true) (j : Int) (hj : 0 ≤ j) : 0 ≤ lt5 t q e j ∧ lt5 t q e j ≤ 26 := by
  unfold lt5
  by_cases c : q + j < e
  · rw [if_pos c]
    have := isL_t.1 (hL (q + j) (by omega) c)
    omega
  · rw [if_neg c]; decide
theorem pk5_bd {q e : Int} (hL : ∀ j, q ≤ j → j < e → isL (t j) = true) : 0 ≤ pk5 t q e ∧ pk5 t q e < 1073741824 := by
  have a0 := lt5_bd hL 0 (by decide)
  have a1 := lt5_bd hL 1 (by decide)
  have a2 := lt5_bd hL 2 (by decide)
  have a3 := lt5_bd hL 3 (by decide)
  have a4 := lt5_bd hL 4 (by decide)
  have a5 := lt5_bd hL 5 (by decide)
  unfold pk5
  omega
theorem nvlN_bd (t : Int → Int) : ∀ (m : Nat) (i a : Int), 0 ≤ a → a ≤ 999999 → 0 ≤ nvlN t m i a ∧ nvlN t m i a ≤ 999999
  | 0, _, a, h0, h1 => ⟨h0, h1⟩
  | m + 1, i, a, h0, h1 => by
    show 0 ≤ (if isD (t i) then nvlN t m (i + 1) (if 99999 < a then a else 10 * a + t i - 48) else a) ∧ (if isD (t i) then nvlN t m (i + 1) (if 99999 < a then a else 10 * a + t i - 48) else a) ≤ 999999
    by_cases c : isD (t i) = true
    · rw [if_pos c]
      have hc := isD_t.1 c
      refine nvlN_bd t m (i + 1) _ ?_ ?_
      · split <;> omega
      · split <;> omega
    · rw [if_neg c]; exact ⟨h0, h1⟩
theorem tV_bd (hs : tS t n i = 0 ∨ tS t n i = 1 ∨ tS t n i = 2) : 0 ≤ tV t n i ∧ tV t n i < 1073741824 ∧ (tS t n i = 0 → tV t n i ≤ 9) := by
  revert hs
  unfold tS tV tSq tVq
  intro hs
  by_cases c : n ≤ tP t n i
  · rw [if_pos c] at hs; omega
  · rw [if_neg c] at hs ⊢
    by_cases d : isL (t (tP t n i)) = true
    · rw [if_pos d] at hs
      rw [if_pos d, if_pos d]
      have hw := wN_bd (t := t) (tP t n i) (sk isL t n (tP t n i))
      have hk := pk5_bd (t := t) (q := tP t n i) (e := sk isL t n (tP t n i)) (fun j a b => sk_all a b)
      by_cases g : wN t (tP t n i) (sk isL t n (tP t n i)) = -1
      · rw [if_pos g] at hs
        rw [if_pos g, if_pos g]
        refine ⟨hk.1, hk.2, fun z => ?_⟩
        split at z <;> omega
      · rw [if_neg g, if_neg g]
        exact ⟨by omega, by omega, fun _ => by omega⟩
    · rw [if_neg d] at hs
      rw [if_neg d, if_neg d]
      have := nvlN_bd t (n - tP t n i).toNat (tP t n i) 0 (by decide) (by decide)
      refine ⟨this.1, by unfold nvl; omega, fun z => ?_⟩
      by_cases g : isD (t (tP t n i)) = true
      · rw [if_pos g] at z; omega
      · rw [if_neg g] at z
        split at z <;> omega
theorem tS_bd : 0 ≤ tS t n i ∧ tS t n i ≤ 5 := by
  unfold tS tSq
  repeat' split
  all_goals decide
/-- the end stays the end -/
theorem tS_end (h : i ≤ n) (e : tS t n i = 4) : tP t n i = n ∧ tE t n i = n ∧ tP t n n = n := by
  have hb := tP_bd (t := t) h
  have c : n ≤ tP t n i := by
    revert e
    unfold tS tSq
    intro e
    by_cases c : n ≤ tP t n i
    · exact c
    · rw [if_neg c] at e
      exfalso
      revert e
      repeat' split
      all_goals decide
  refine ⟨by omega, ?_, sk_e (Int.le_refl _)⟩
  unfold tE tEq
  rw [if_pos c]
  omega
end TOK
