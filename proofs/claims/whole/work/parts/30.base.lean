/-! pure words: bits (rows b_.. out of laws/BITS.to-paste), rows, sums, loops -/
def bt (x : Int32) (i : Nat) : Bool := x.toBitVec.getLsbD i
theorem b_ext {x y : Int32} (h : ∀ i, i < 32 → bt x i = bt y i) : x = y := Int32.toBitVec_inj.mp (BitVec.eq_of_getLsbD_eq (fun i hi => h i hi))
theorem b_or (x y : Int32) (i : Nat) : bt (x ||| y) i = (bt x i || bt y i) := by unfold bt; rw [Int32.toBitVec_or, BitVec.getLsbD_or]
theorem b_and (x y : Int32) (i : Nat) : bt (x &&& y) i = (bt x i && bt y i) := by unfold bt; rw [Int32.toBitVec_and, BitVec.getLsbD_and]
theorem b_xor (x y : Int32) (i : Nat) : bt (x ^^^ y) i = (bt x i ^^ bt y i) := by unfold bt; rw [Int32.toBitVec_xor, BitVec.getLsbD_xor]
theorem b_big {x : Int32} {i : Nat} (h : 32 ≤ i) : bt x i = false := BitVec.getLsbD_of_ge _ _ h
theorem b_m1 : ∀ i, i < 32 → bt (-1) i = true := by decide +kernel
theorem b_0 (i : Nat) : bt 0 i = false := BitVec.getLsbD_zero
theorem s_l : ∀ n, n < 32 → ((nI n &&& 31).toBitVec.smod 32).toNat = n := by decide +kernel
theorem b_shl (n : Nat) (hn : n < 32) (x : Int32) {i : Nat} (hi : i < 32) : bt (x <<< (nI n &&& 31)) i = (decide (n ≤ i) && bt x (i - n)) := by
  unfold bt
  rw [Int32.toBitVec_shiftLeft]
  show (x.toBitVec <<< ((nI n &&& 31).toBitVec.smod 32).toNat).getLsbD i = _
  rw [s_l n hn, BitVec.getLsbD_shiftLeft]
  rcases Nat.lt_or_ge i n with h | h
  · simp [h, Nat.not_le.mpr h]
  · simp [hi, h, Nat.not_lt.mpr h]
theorem b_sshr (n : Nat) (hn : n < 32) (x : Int32) {i : Nat} (hi : i < 32) : bt (x >>> (nI n &&& 31)) i = if n + i < 32 then bt x (n + i) else bt x 31 := by
  unfold bt
  rw [Int32.toBitVec_shiftRight]
  show (x.toBitVec.sshiftRight ((nI n &&& 31).toBitVec.smod 32).toNat).getLsbD i = _
  rw [s_l n hn, BitVec.getLsbD_sshiftRight, BitVec.msb_eq_getLsbD_last]
  simp [hi]
theorem i32_R (x : Int32) : mInR x.toInt := ⟨by have := x.le_toInt; omega, by have := x.toInt_lt; omega⟩
theorem mAnd_R (x y : Int) : mInR (mAnd x y) := i32_R _
theorem mOr_R (x y : Int) : mInR (mOr x y) := i32_R _
theorem mXor_R (x y : Int) : mInR (mXor x y) := i32_R _
theorem mShl_R (x y : Int) : mInR (mShl x y) := i32_R _
theorem mShr_R (x y : Int) : mInR (mShr x y) := i32_R _
theorem o32_nI {l : Int} (h : 0 ≤ l) : Int32.ofInt l = nI l.toNat := by
  have e : l = (l.toNat : Int) := by omega
  rw [e]
  exact Int32.ofInt_eq_ofNat
/-- bit l of x, as isJoined asks for it -/
def jb (x l : Int) : Bool := decide (mAnd (mShr x l) 1 = 1)
theorem bit1 (y : Int32) : (y &&& 1).toInt = if bt y 0 then 1 else 0 := by
  have h : y &&& 1 = if bt y 0 then 1 else 0 := by
    apply b_ext
    intro i hi
    rw [b_and]
    have h1 : bt 1 i = decide (i = 0) := (by decide +kernel : ∀ i, i < 32 → bt 1 i = decide (i = 0)) i hi
    rw [h1]
    by_cases e : i = 0
    · subst e
      cases hb : bt y 0
      · simp; exact (b_0 0).symm
      · simp; exact (by decide +kernel : bt 1 0 = true).symm
    · cases hb : bt y 0
      · simp [e]; exact b_0 i
      · simp [e]; rw [h1]; simp [e]
  rw [h]
  split <;> rfl
theorem mAnd1 {x l : Int} (h0 : 0 ≤ l) (h1 : l < 32) : mAnd (mShr x l) 1 = if bt (Int32.ofInt x) l.toNat then 1 else 0 := by
  unfold mAnd mShr
  rw [Int32.ofInt_toInt, show Int32.ofInt 1 = 1 from rfl, bit1, o32_nI h0, b_sshr _ (by omega) _ (by omega)]
  have e : l.toNat < 32 := by omega
  simp only [Nat.add_zero, e, if_true]
theorem jb_bt {x l : Int} (h0 : 0 ≤ l) (h1 : l < 32) : jb x l = bt (Int32.ofInt x) l.toNat := by
  unfold jb
  rw [mAnd1 h0 h1]
  cases bt (Int32.ofInt x) l.toNat <;> simp
theorem jb_01 {x l : Int} (h0 : 0 ≤ l) (h1 : l < 32) : mAnd (mShr x l) 1 = if jb x l then 1 else 0 := by rw [mAnd1 h0 h1, jb_bt h0 h1]
theorem bt_shl1 {k l : Int} (hk : 0 ≤ k) (hk1 : k < 32) (hl : 0 ≤ l) (hl1 : l < 32) : bt (Int32.ofInt (mShl 1 k)) l.toNat = decide (l = k) := by
  unfold mShl
  rw [Int32.ofInt_toInt, o32_nI hk, b_shl _ (by omega) _ (by omega), show Int32.ofInt 1 = 1 from rfl]
  by_cases e : l = k
  · subst e; simp; exact (by decide +kernel : bt 1 0 = true)
  · simp [e]
    intro h
    have h1 : ∀ i, i < 32 → bt 1 i = decide (i = 0) := by decide +kernel
    rw [h1 _ (by omega)]
    simp; omega
theorem jb_or {x k l : Int} (hk : 0 ≤ k) (hk1 : k < 32) (hl : 0 ≤ l) (hl1 : l < 32) : jb (mOr x (mShl 1 k)) l = (jb x l || decide (l = k)) := by
  rw [jb_bt hl hl1, jb_bt hl hl1]
  unfold mOr
  rw [Int32.ofInt_toInt, b_or, bt_shl1 hk hk1 hl hl1]
theorem jb_xor {x k l : Int} (hk : 0 ≤ k) (hk1 : k < 32) (hl : 0 ≤ l) (hl1 : l < 32) : jb (mXor x (mShl 1 k)) l = (jb x l ^^ decide (l = k)) := by
  rw [jb_bt hl hl1, jb_bt hl hl1]
  unfold mXor
  rw [Int32.ofInt_toInt, b_xor, bt_shl1 hk hk1 hl hl1]
theorem jb_andn {x k l : Int} (hk : 0 ≤ k) (hk1 : k < 32) (hl : 0 ≤ l) (hl1 : l < 32) : jb (mAnd x (mXor (mShl 1 k) (-1))) l = (jb x l && !decide (l = k)) := by
  rw [jb_bt hl hl1, jb_bt hl hl1]
  unfold mAnd mXor
  rw [Int32.ofInt_toInt, Int32.ofInt_toInt, b_and, b_xor, bt_shl1 hk hk1 hl hl1, show Int32.ofInt (-1) = -1 from rfl, b_m1 _ (by omega)]
  simp
theorem jb_0 {l : Int} (hl : 0 ≤ l) (hl1 : l < 32) : jb 0 l = false := by
  rw [jb_bt hl hl1, show Int32.ofInt 0 = 0 from rfl, b_0]
theorem mSlot {f l : Int} (hf : 0 ≤ f) (hf1 : f < 4) (hl : 0 ≤ l) (hl1 : l < 8) : mOr (mShl f 3) l = 8 * f + l := by
  have key : ∀ a : Fin 4, ∀ b : Fin 8, mOr (mShl (a.val : Int) 3) (b.val : Int) = 8 * (a.val : Int) + (b.val : Int) := by decide +kernel
  have := key ⟨f.toNat, by omega⟩ ⟨l.toNat, by omega⟩
  simpa [Int.toNat_of_nonneg hf, Int.toNat_of_nonneg hl] using this
theorem mAnd_mask {x : Int} (k : Nat) (hk : k < 31) : mAnd x (2 ^ k - 1) = x % 2 ^ k := by
  have h2 : (1 : Int) ≤ 2 ^ k := by
    have := Nat.one_le_two_pow (n := k)
    have e : ((2 ^ k : Nat) : Int) = (2 : Int) ^ k := by simp
    omega
  have e0 : (2 : Int) ^ k - 1 = ((2 ^ k - 1 : Nat) : Int) := by
    have := Nat.one_le_two_pow (n := k)
    have e : ((2 ^ k : Nat) : Int) = (2 : Int) ^ k := by simp
    omega
  have hlt : (2 : Nat) ^ k < 2 ^ 31 := Nat.pow_lt_pow_right (by decide) hk
  unfold mAnd
  rw [e0, Int32.ofInt_eq_ofNat, show Int32.ofNat (2 ^ k - 1) = nI (2 ^ k - 1) from rfl, pk_and (Int32.ofInt x) k (by rw [pk_tn (by omega)])]
  have h3 : (Int32.ofInt x).toBitVec.toNat = (x % 4294967296).toNat := by
    rw [Int32.toBitVec_ofInt, BitVec.toNat_ofInt]
    rfl
  have hp : 0 < 2 ^ k := Nat.two_pow_pos k
  have hm : (Int32.ofInt x).toBitVec.toNat % 2 ^ k < 2 ^ k := Nat.mod_lt _ hp
  rw [nI_toInt (by omega), h3]
  have e1 : (((x % 4294967296).toNat % 2 ^ k : Nat) : Int) = (x % 4294967296) % 2 ^ k := by
    rw [Int.natCast_emod, Int.toNat_of_nonneg (Int.emod_nonneg _ (by decide))]
    simp
  rw [e1]
  have hd : ((2 : Int) ^ k) ∣ 4294967296 := by
    refine ⟨2 ^ (32 - k), ?_⟩
    rw [← Int.pow_add, show k + (32 - k) = 32 by omega]
    rfl
  exact Int.emod_emod_of_dvd x hd
theorem mShr_div {x k : Int} (h0 : 0 ≤ x) (h1 : x < 2147483648) (hk : 0 ≤ k) (hk1 : k < 32) : mShr x k = x / 2 ^ k.toNat := by
  unfold mShr
  rw [o32_nI h0, o32_nI hk, pk_shrN (by omega) _ k.toNat (s_l _ (by omega))]
  have : x.toNat / 2 ^ k.toNat ≤ x.toNat := Nat.div_le_self _ _
  rw [nI_toInt (by omega), Int.natCast_ediv, Int.toNat_of_nonneg h0]
  simp
theorem mShl_mul {x k : Int} (h0 : 0 ≤ x) (hk : 0 ≤ k) (hk1 : k < 32) (h1 : x * 2 ^ k.toNat < 2147483648) : mShl x k = x * 2 ^ k.toNat := by
  unfold mShl
  have e : (x.toNat * 2 ^ k.toNat : Nat) = (x * 2 ^ k.toNat).toNat := by
    rw [Int.toNat_mul h0 (Int.pow_nonneg (by decide))]
    congr 1
  have hnn : 0 ≤ x * 2 ^ k.toNat := Int.mul_nonneg h0 (Int.pow_nonneg (by decide))
  rw [o32_nI h0, o32_nI hk, pk_shlN _ k.toNat (s_l _ (by omega)) (by rw [e]; omega), e, nI_toInt (by omega)]
  omega
/-! rows -/
def up (f : Int → Int) (k v : Int) : Int → Int := fun j => if j = k then v else f j
def rs (h : mH) (r : Nat) (i : Int) (f : Int → Int) : mH := fun r' i' => if r' = r ∧ i' = i then f else h r' i'
theorem mSet_rs (h : mH) (r : Nat) (i k v : Int) : mSet h r i k v = rs h r i (up (h r i) k v) := by
  funext r' i' k'
  unfold mSet rs up
  by_cases e : r' = r ∧ i' = i
  · obtain ⟨rfl, rfl⟩ := e
    simp
  · rw [if_neg e, if_neg (fun z => e ⟨z.1, z.2.1⟩)]
theorem rs_same (h : mH) (r : Nat) (i : Int) (f : Int → Int) : rs h r i f r i = f := by simp [rs]
theorem rs_r {h : mH} {r r' : Nat} {i i' : Int} {f : Int → Int} (e : r' ≠ r) : rs h r i f r' i' = h r' i' := by simp [rs, e]
theorem rs_i {h : mH} {r r' : Nat} {i i' : Int} {f : Int → Int} (e : i' ≠ i) : rs h r i f r' i' = h r' i' := by simp [rs, e]
theorem rs_rs (h : mH) (r : Nat) (i : Int) (f g : Int → Int) : rs (rs h r i f) r i g = rs h r i g := by
  funext r' i'
  unfold rs
  split <;> rfl
theorem rs_self (h : mH) (r : Nat) (i : Int) : rs h r i (h r i) = h := by
  funext r' i'
  unfold rs
  by_cases e : r' = r ∧ i' = i
  · rw [if_pos e, e.1, e.2]
  · rw [if_neg e]
theorem up_same (f : Int → Int) (k v : Int) : up f k v k = v := by simp [up]
theorem up_ne {f : Int → Int} {k v j : Int} (e : j ≠ k) : up f k v j = f j := by simp [up, e]
theorem up_up (f : Int → Int) (k v w : Int) : up (up f k v) k w = up f k w := by
  funext j
  unfold up
  split <;> rfl
/-! sums -/
def smN (w : Int → Int) : Nat → Int
  | 0 => 0
  | n + 1 => smN w n + w (n : Int)
def sm (w : Int → Int) (n : Int) : Int := smN w n.toNat
theorem sm_0 (w : Int → Int) : sm w 0 = 0 := rfl
theorem sm_s (w : Int → Int) {n : Int} (h : 0 ≤ n) : sm w (n + 1) = sm w n + w n := by
  unfold sm
  rw [show (n + 1).toNat = n.toNat + 1 by omega]
  show smN w n.toNat + w (n.toNat : Int) = _
  rw [Int.toNat_of_nonneg h]
theorem smN_congr {w v : Int → Int} : ∀ n : Nat, (∀ r : Int, 0 ≤ r → r < n → w r = v r) → smN w n = smN v n
  | 0, _ => rfl
  | n + 1, h => by
    show smN w n + w n = smN v n + v n
    rw [smN_congr n (fun r h0 h1 => h r h0 (by omega)), h n (by omega) (by omega)]
theorem sm_congr {w v : Int → Int} {n : Int} (h : ∀ r : Int, 0 ≤ r → r < n → w r = v r) : sm w n = sm v n := smN_congr _ (fun r h0 h1 => h r h0 (by omega))
theorem smN_bd {w : Int → Int} {a b : Int} : ∀ n : Nat, (∀ r : Int, 0 ≤ r → r < n → a ≤ w r ∧ w r ≤ b) → n * a ≤ smN w n ∧ smN w n ≤ n * b
  | 0, _ => by simp [smN]
  | n + 1, h => by
    have ih := smN_bd n (fun r h0 h1 => h r h0 (by omega))
    have h1 := h n (by omega) (by omega)
    show ((n + 1 : Nat) : Int) * a ≤ smN w n + w n ∧ smN w n + w n ≤ ((n + 1 : Nat) : Int) * b
    rw [Int.natCast_add, Int.add_mul, Int.add_mul]
    simp only [Int.natCast_one, Int.one_mul]
    omega
theorem sm_bd {w : Int → Int} {a b n : Int} (hn : 0 ≤ n) (h : ∀ r : Int, 0 ≤ r → r < n → a ≤ w r ∧ w r ≤ b) : n * a ≤ sm w n ∧ sm w n ≤ n * b := by
  have := smN_bd n.toNat (fun r h0 h1 => h r h0 (by omega))
  rwa [Int.toNat_of_nonneg hn] at this
theorem smN_add (w v : Int → Int) : ∀ n : Nat, smN (fun r => w r + v r) n = smN w n + smN v n
  | 0 => rfl
  | n + 1 => by
    show smN _ n + (w n + v n) = (smN w n + w n) + (smN v n + v n)
    rw [smN_add w v n]
    omega
theorem sm_add (w v : Int → Int) (n : Int) : sm (fun r => w r + v r) n = sm w n + sm v n := smN_add w v _
/-! loops -/
theorem upI {P : Int → Prop} {n : Int} (h0 : P n) (hs : ∀ r, 0 ≤ r → r < n → P (r + 1) → P r) (r : Int) (hr : 0 ≤ r) (hn : r ≤ n) : P r := by
  have key : ∀ k : Nat, ∀ r : Int, 0 ≤ r → r + k = n → P r := by
    intro k
    induction k with
    | zero =>
      intro r h1 h2
      have : r = n := by omega
      exact this ▸ h0
    | succ k ih =>
      intro r h1 h2
      exact hs r h1 (by omega) (ih (r + 1) (by omega) (by omega))
  exact key (n - r).toNat r hr (by omega)
