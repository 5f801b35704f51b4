/-! what the office is: a plan p, a row s of 314 numbers (risks of 7 each; relativities from 280 on, 6 a factor; joins from 304 on; base 308, cap 309, many 310, trust 311, size 312, off 313) -/
abbrev Pn : Type := (Int × Int × Int) × (Int → Int) × (Int → Int) × (Int → Int)
def nf (p : Pn) : Int := p.1.1
def bd (p : Pn) : Int := p.1.2.1
def sd (p : Pn) : Int := p.1.2.2
def lv (p : Pn) : Int → Int := p.2.1
def lo (p : Pn) : Int → Int := p.2.2.1
def hi (p : Pn) : Int → Int := p.2.2.2
def WfP (p : Pn) : Prop := ((0 ≤ nf p ∧ nf p ≤ 4) ∧ (0 ≤ bd p ∧ bd p ≤ 999) ∧ 0 ≤ sd p ∧ sd p ≤ 99999) ∧ ∀ f, 0 ≤ f → f < nf p → (1 ≤ lv p f ∧ lv p f ≤ 6) ∧ (1 ≤ lo p f ∧ lo p f ≤ 10000) ∧ (10000 ≤ hi p f ∧ hi p f ≤ 99999)
/-- the numbers of a row -/
def WfN (s : Int → Int) : Prop := (0 ≤ s 310 ∧ s 310 ≤ 40) ∧ (1 ≤ s 308 ∧ s 308 ≤ 99999) ∧ (0 ≤ s 309 ∧ s 309 ≤ 999) ∧ (0 ≤ s 311 ∧ s 311 ≤ 999) ∧ (1 ≤ s 312 ∧ s 312 ≤ 99) ∧ (0 ≤ s 313 ∧ s 313 ≤ 500)
/-- a risk -/
def WfR (p : Pn) (s : Int → Int) (r : Int) : Prop := (1 ≤ s (7 * r + 0) ∧ s (7 * r + 0) ≤ 99) ∧ (0 ≤ s (7 * r + 1) ∧ s (7 * r + 1) ≤ 99999) ∧ (1 ≤ s (7 * r + 2) ∧ s (7 * r + 2) ≤ 99999) ∧ ∀ f, 0 ≤ f → f < 4 → 0 ≤ s (7 * r + 3 + f) ∧ (f < nf p → s (7 * r + 3 + f) < lv p f) ∧ (nf p ≤ f → s (7 * r + 3 + f) = 0)
/-- relativities within their bands -/
def WfL (p : Pn) (s : Int → Int) : Prop := ∀ f, 0 ≤ f → f < nf p → ∀ l, 0 ≤ l → l < lv p f → lo p f ≤ s (280 + 6 * f + l) ∧ s (280 + 6 * f + l) ≤ hi p f
/-- joined ones are alike -/
def WfJ (p : Pn) (s : Int → Int) : Prop := ∀ f, 0 ≤ f → f < nf p → ∀ l, 0 ≤ l → l < 32 → jb (s (304 + f)) l = true → l + 1 < lv p f ∧ s (280 + 6 * f + l) = s (280 + 6 * f + (l + 1))
def WfS (p : Pn) (s : Int → Int) : Prop := WfN s ∧ (∀ r, 0 ≤ r → r < s 310 → WfR p s r) ∧ WfL p s ∧ WfJ p s
/-- the first level of a level's own -/
def fsN (s : Int → Int) (f : Int) : Nat → Int
  | 0 => 0
  | n + 1 => if jb (s (304 + f)) (n : Int) then fsN s f n else (n : Int) + 1
def fs (s : Int → Int) (f l : Int) : Int := fsN s f l.toNat
theorem fs_0 (s : Int → Int) (f : Int) : fs s f 0 = 0 := rfl
theorem fs_s {s : Int → Int} {f l : Int} (h : 0 ≤ l) : fs s f (l + 1) = if jb (s (304 + f)) l then fs s f l else l + 1 := by
  unfold fs
  rw [show (l + 1).toNat = l.toNat + 1 by omega]
  show (if jb (s (304 + f)) (l.toNat : Int) then fsN s f l.toNat else (l.toNat : Int) + 1) = _
  rw [Int.toNat_of_nonneg h]
theorem fsN_le (s : Int → Int) (f : Int) : ∀ n : Nat, 0 ≤ fsN s f n ∧ fsN s f n ≤ n
  | 0 => by simp [fsN]
  | n + 1 => by
    have := fsN_le s f n
    unfold fsN
    split <;> omega
theorem fs_le {s : Int → Int} {f l : Int} (h : 0 ≤ l) : 0 ≤ fs s f l ∧ fs s f l ≤ l := by
  have := fsN_le s f l.toNat
  unfold fs
  omega
theorem fsN_fs (s : Int → Int) (f : Int) : ∀ n : Nat, fs s f (fsN s f n) = fsN s f n
  | 0 => rfl
  | n + 1 => by
    unfold fsN
    by_cases e : jb (s (304 + f)) (n : Int) = true
    · rw [if_pos e]; exact fsN_fs s f n
    · rw [if_neg e, fs_s (by omega), if_neg e]
theorem fs_fs (s : Int → Int) (f l : Int) : fs s f (fs s f l) = fs s f l := fsN_fs s f _
/-- the first one: none is joined to it from below -/
theorem fs_start {s : Int → Int} {f l : Int} (h : 0 ≤ l) : fs s f l = l ↔ (l = 0 ∨ jb (s (304 + f)) (l - 1) = false) := by
  by_cases e : l = 0
  · subst e; simp [fs_0]
  · have e2 := fs_s (s := s) (f := f) (l := l - 1) (by omega)
    rw [show l - 1 + 1 = l by omega] at e2
    cases hj : jb (s (304 + f)) (l - 1)
    · rw [e2, hj]; simp
    · rw [e2, hj]
      have := (fs_le (s := s) (f := f) (l := l - 1) (by omega)).2
      simp; omega
/-- the last level -/
def laF (s : Int → Int) (f : Int) : Nat → Int → Int
  | 0, l => l
  | n + 1, l => if jb (s (304 + f)) l then laF s f n (l + 1) else l
def la (s : Int → Int) (f l : Int) : Int := laF s f 6 l
/-- from c on all up to m are joined -/
theorem fs_reach {s : Int → Int} {f : Int} : ∀ (n : Nat) (c : Int), 0 ≤ c → c ≤ n → (∀ k, c ≤ k → k < n → jb (s (304 + f)) k = true) → fs s f n = fs s f c
  | 0, c, h0, h1, _ => by rw [show c = 0 by omega]; rfl
  | n + 1, c, h0, h1, h => by
    by_cases e : c = (n : Int) + 1
    · rw [e]; rfl
    · have := fs_reach n c h0 (by omega) (fun k h2 h3 => h k h2 (by omega))
      rw [show ((n + 1 : Nat) : Int) = (n : Int) + 1 by omega, fs_s (by omega), if_pos (h n (by omega) (by omega))]
      exact this
theorem fs_joined {s : Int → Int} {f : Int} : ∀ (n : Nat) (k : Int), fs s f n ≤ k → k < n → jb (s (304 + f)) k = true
  | 0, k, h0, h1 => by
    have : fs s f ((0 : Nat) : Int) = 0 := rfl
    omega
  | n + 1, k, h0, h1 => by
    rw [show ((n + 1 : Nat) : Int) = (n : Int) + 1 by omega, fs_s (by omega)] at h0
    by_cases e : jb (s (304 + f)) (n : Int) = true
    · rw [if_pos e] at h0
      by_cases e2 : k = (n : Int)
      · rw [e2]; exact e
      · exact fs_joined n k h0 (by omega)
    · rw [if_neg e] at h0
      omega
/-- which levels are of the one that begins at c -/
theorem fs_iff {s : Int → Int} {f c m : Int} (hc : 0 ≤ c) (hs : fs s f c = c) (hm : 0 ≤ m) : fs s f m = c ↔ (c ≤ m ∧ ∀ k, c ≤ k → k < m → jb (s (304 + f)) k = true) := by
  constructor
  · intro e
    have h1 := fs_le (s := s) (f := f) hm
    refine ⟨by omega, fun k h2 h3 => ?_⟩
    refine fs_joined m.toNat k ?_ (by omega)
    rw [Int.toNat_of_nonneg hm, e]
    exact h2
  · rintro ⟨h1, h2⟩
    have := fs_reach (s := s) (f := f) m.toNat c hc (by omega) (fun k h3 h4 => h2 k h3 (by omega))
    rw [Int.toNat_of_nonneg hm] at this
    rw [this, hs]
/-! premiums -/
def bhN (s : Int → Int) (e : Int) (g : Int → Int) : Nat → Int
  | 0 => e * s 308
  | n + 1 => (bhN s e g n * s (280 + 6 * (n : Int) + g (n : Int))).tdiv 10000
def bh (s : Int → Int) (e : Int) (g : Int → Int) (n : Int) : Int := bhN s e g n.toNat
theorem bh_0 (s : Int → Int) (e : Int) (g : Int → Int) : bh s e g 0 = e * s 308 := rfl
theorem bh_s {s : Int → Int} {e : Int} {g : Int → Int} {n : Int} (h : 0 ≤ n) : bh s e g (n + 1) = (bh s e g n * s (280 + 6 * n + g n)).tdiv 10000 := by
  unfold bh
  rw [show (n + 1).toNat = n.toNat + 1 by omega]
  show (bhN s e g n.toNat * s (280 + 6 * (n.toNat : Int) + g (n.toNat : Int))).tdiv 10000 = _
  rw [Int.toNat_of_nonneg h]
def prm (s : Int → Int) (n e : Int) (g : Int → Int) : Int := if e < s 312 then bh s e g n else bh s e g n - (bh s e g n * s 313).tdiv 1000
def pr (p : Pn) (s : Int → Int) (r : Int) : Int := prm s (nf p) (s (7 * r + 0)) (fun f => s (7 * r + 3 + f))
theorem mulb {x y A B : Int} (hx : 0 ≤ x ∧ x ≤ A) (hy : 0 ≤ y ∧ y ≤ B) : 0 ≤ x * y ∧ x * y ≤ A * B := ⟨Int.mul_nonneg hx.1 hy.1, Int.mul_le_mul hx.2 hy.2 hy.1 (by omega)⟩
theorem tdivb {x c : Int} (hx : 0 ≤ x) : x.tdiv c = x / c := Int.tdiv_eq_ediv_of_nonneg hx
theorem bhN_bd {p : Pn} {s : Int → Int} (hp : WfP p) (hs : WfS p s) {e : Int} (he : 0 ≤ e ∧ e ≤ 99) {g : Int → Int} (hg : ∀ f, 0 ≤ f → f < nf p → 0 ≤ g f ∧ g f < lv p f) : ∀ n : Nat, (n : Int) ≤ nf p → 0 ≤ bhN s e g n ∧ bhN s e g n ≤ 9899901 * 10 ^ n
  | 0, _ => by
    have h1 := hs.1.2.1
    have := mulb (x := e) (y := s 308) (A := 99) (B := 99999) he (by omega)
    simp only [bhN]
    omega
  | n + 1, hn => by
    have ih := bhN_bd hp hs he hg n (by omega)
    have h1 := hg n (by omega) (by omega)
    have h2 := hs.2.2.1 n (by omega) (by omega) (g n) h1.1 h1.2
    have h3 := hp.2 n (by omega) (by omega)
    have h4 := mulb (x := bhN s e g n) (y := s (280 + 6 * (n : Int) + g n)) (A := 9899901 * 10 ^ n) (B := 99999) ih (by omega)
    have e1 : (10 : Int) ^ (n + 1) = 10 * 10 ^ n := by rw [Int.pow_succ, Int.mul_comm]
    simp only [bhN]
    rw [tdivb h4.1, e1]
    generalize (10 : Int) ^ n = t at *
    generalize bhN s e g n * s (280 + 6 * (n : Int) + g n) = y at *
    omega
theorem bh_bd {p : Pn} {s : Int → Int} (hp : WfP p) (hs : WfS p s) {e : Int} (he : 0 ≤ e ∧ e ≤ 99) {g : Int → Int} (hg : ∀ f, 0 ≤ f → f < nf p → 0 ≤ g f ∧ g f < lv p f) {n : Int} (hn0 : 0 ≤ n) (hn : n ≤ nf p) : 0 ≤ bh s e g n ∧ bh s e g n ≤ 98999010000 := by
  have h1 := bhN_bd hp hs he hg n.toNat (by omega)
  have h2 : n.toNat ≤ 4 := by have := hp.1.1; omega
  have h3 : (10 : Int) ^ n.toNat ≤ 10000 := by
    have : ∀ k, k ≤ 4 → (10 : Int) ^ k ≤ 10000 := by decide
    exact this _ h2
  unfold bh
  omega
theorem prm_bd {p : Pn} {s : Int → Int} (hp : WfP p) (hs : WfS p s) {e : Int} (he : 0 ≤ e ∧ e ≤ 99) {g : Int → Int} (hg : ∀ f, 0 ≤ f → f < nf p → 0 ≤ g f ∧ g f < lv p f) : 0 ≤ prm s (nf p) e g ∧ prm s (nf p) e g ≤ 98999010000 := by
  have h1 := bh_bd hp hs he hg (n := nf p) (by have := hp.1.1; omega) (Int.le_refl _)
  have h2 := hs.1.2.2.2.2.2
  unfold prm
  split
  · exact h1
  · have h3 := mulb (x := bh s e g (nf p)) (y := s 313) (A := bh s e g (nf p)) (B := 500) (by omega) (by omega)
    rw [tdivb h3.1]
    generalize bh s e g (nf p) * s 313 = y at *
    omega
theorem pr_bd {p : Pn} {s : Int → Int} (hp : WfP p) (hs : WfS p s) {r : Int} (h0 : 0 ≤ r) (h1 : r < s 310) : 0 ≤ pr p s r ∧ pr p s r ≤ 98999010000 := by
  have hr := hs.2.1 r h0 h1
  have h4 := hp.1.1
  exact prm_bd hp hs ⟨by have := hr.1; omega, hr.1.2⟩ (fun f h2 h3 => ⟨(hr.2.2.2 f h2 (by omega)).1, (hr.2.2.2 f h2 (by omega)).2.1 h3⟩)
/-! margins -/
def co (s : Int → Int) (f l : Int) (w : Int → Int) (r : Int) : Int := if fs s f (s (7 * r + 3 + f)) = fs s f l then w r else 0
def cs (s : Int → Int) (f l : Int) (w : Int → Int) : Int := sm (co s f l w) (s 310)
def csC (s : Int → Int) (f l : Int) : Int := cs s f l (fun r => s (7 * r + 1))
def csE (s : Int → Int) (f l : Int) : Int := cs s f l (fun r => s (7 * r + 0))
def csP (p : Pn) (s : Int → Int) (f l : Int) : Int := cs s f l (pr p s)
def csR (s : Int → Int) (f l : Int) : Int := cs s f l (fun _ => 1)
theorem cs_bd {p : Pn} {s : Int → Int} (hs : WfS p s) {f l : Int} {w : Int → Int} {b : Int} (hb : 0 ≤ b) (h : ∀ r, 0 ≤ r → r < s 310 → 0 ≤ w r ∧ w r ≤ b) : 0 ≤ cs s f l w ∧ cs s f l w ≤ 40 * b := by
  have h1 := hs.1.1
  have h2 := sm_bd (w := co s f l w) (a := 0) (b := b) h1.1 (fun r h3 h4 => by
    unfold co
    have := h r h3 h4
    split
    · exact this
    · exact ⟨Int.le_refl 0, hb⟩)
  have h3 := mulb (x := s 310) (y := b) (A := 40) (B := b) h1 ⟨hb, Int.le_refl _⟩
  unfold cs
  rw [Int.mul_zero] at h2
  omega
theorem csC_bd {p : Pn} {s : Int → Int} (hs : WfS p s) (f l : Int) : 0 ≤ csC s f l ∧ csC s f l ≤ 3999960 := cs_bd hs (b := 99999) (by decide) (fun r h0 h1 => (hs.2.1 r h0 h1).2.1)
theorem csE_bd {p : Pn} {s : Int → Int} (hs : WfS p s) (f l : Int) : 0 ≤ csE s f l ∧ csE s f l ≤ 3960 := cs_bd hs (b := 99) (by decide) (fun r h0 h1 => by have := (hs.2.1 r h0 h1).1; omega)
theorem csR_bd {p : Pn} {s : Int → Int} (hs : WfS p s) (f l : Int) : 0 ≤ csR s f l ∧ csR s f l ≤ 40 := cs_bd hs (b := 1) (by decide) (fun _ _ _ => by decide)
theorem csP_bd {p : Pn} {s : Int → Int} (hp : WfP p) (hs : WfS p s) (f l : Int) : 0 ≤ csP p s f l ∧ csP p s f l ≤ 3959960400000 := cs_bd hs (b := 98999010000) (by decide) (fun r h0 h1 => pr_bd hp hs h0 h1)
