/-! the reference: new premiums held to the old ones -/
theorem up_self (s : Int → Int) (k : Int) : up s k (s k) = s := by
  funext j
  unfold up
  by_cases c : j = k
  · rw [if_pos c, c]
  · rw [if_neg c]
theorem smN_mono {w v : Int → Int} : ∀ n : Nat, (∀ r : Int, 0 ≤ r → r < n → w r ≤ v r) → smN w n ≤ smN v n
  | 0, _ => Int.le_refl _
  | n + 1, h => by
    have h1 := smN_mono n (fun r a b => h r a (by omega))
    have h2 := h n (by omega) (by omega)
    show smN w n + w n ≤ smN v n + v n
    omega
theorem sm_mono {w v : Int → Int} {n : Int} (h : ∀ r : Int, 0 ≤ r → r < n → w r ≤ v r) : sm w n ≤ sm v n := smN_mono _ (fun r a b => h r a (by omega))
def raw (p : Pn) (s : Int → Int) (r f : Int) : Int := (pr p s r * f).tdiv 10000
def lee (s : Int → Int) (r c : Int) : Int := (s (7 * r + 2) * c).tdiv 1000
def cpd (p : Pn) (s : Int → Int) (c r f : Int) : Int := wi (raw p s r f) (s (7 * r + 2) - lee s r c) (s (7 * r + 2) + lee s r c)
def alc (p : Pn) (s : Int → Int) (c f : Int) : Int := sm (fun r => cpd p s c r f) (s 310)
def whl (s : Int → Int) : Int := sm (fun r => s (7 * r + 1)) (s 310)
def obP (p : Pn) (s : Int → Int) : Int → Bool := fun f => decide (whl s ≤ alc p s (s 309) f)
def ob (p : Pn) (s : Int → Int) : Int := ls (obP p s) 100000
def byN (p : Pn) (s : Int → Int) : Int := if ob p s = -2 then 10000 else ob p s
def chg (p : Pn) (s : Int → Int) (f r : Int) : Int := cpd p s (s 309) r f - s (7 * r + 2)
section REF11
variable {p : Pn} {s : Int → Int}
theorem raw_bd (hp : WfP p) (hs : WfS p s) {r f : Int} (h0 : 0 ≤ r) (h1 : r < s 310) (hf : 0 ≤ f ∧ f ≤ 99999) : (0 ≤ pr p s r * f ∧ pr p s r * f ≤ 9899802000990000) ∧ 0 ≤ raw p s r f ∧ raw p s r f ≤ 989980200099 := by
  have h2 := pr_bd hp hs h0 h1
  have h3 := mulb h2 hf
  refine ⟨⟨h3.1, by omega⟩, ?_⟩
  unfold raw
  rw [tdivb h3.1]
  omega
theorem lee_bd (hs : WfS p s) {r c : Int} (h0 : 0 ≤ r) (h1 : r < s 310) (hc : 0 ≤ c ∧ c ≤ 999) : (0 ≤ s (7 * r + 2) * c ∧ s (7 * r + 2) * c ≤ 99899001) ∧ 0 ≤ lee s r c ∧ lee s r c ≤ s (7 * r + 2) := by
  have h2 := (hs.2.1 r h0 h1).2.2.1
  have h3 := mulb (x := s (7 * r + 2)) (y := c) (A := s (7 * r + 2)) (B := 999) (by omega) hc
  refine ⟨by omega, ?_⟩
  unfold lee
  rw [tdivb h3.1]
  omega
theorem cpd_bd (hs : WfS p s) {r f c : Int} (h0 : 0 ≤ r) (h1 : r < s 310) (hc : 0 ≤ c ∧ c ≤ 999) : 0 ≤ cpd p s c r f ∧ cpd p s c r f ≤ 199998 := by
  have h2 := (hs.2.1 r h0 h1).2.2.1
  have h3 := lee_bd hs h0 h1 hc
  have h4 := wi_bd (v := raw p s r f) (a := s (7 * r + 2) - lee s r c) (b := s (7 * r + 2) + lee s r c) (by omega)
  unfold cpd
  omega
theorem alc_bd (hs : WfS p s) {f c : Int} (hc : 0 ≤ c ∧ c ≤ 999) : 0 ≤ alc p s c f ∧ alc p s c f ≤ 7999920 := by
  have hm := hs.1.1
  have := sm_bd (w := fun r => cpd p s c r f) (a := 0) (b := 199998) hm.1 (fun r a b => cpd_bd hs a b hc)
  unfold alc
  omega
theorem whl_bd (hs : WfS p s) : 0 ≤ whl s ∧ whl s ≤ 3999960 := sumC_bd hs
theorem wi_mono {v w a b : Int} (h : v ≤ w) (hab : a ≤ b) : wi v a b ≤ wi w a b := by
  unfold wi
  split <;> split <;> try split
  all_goals first | omega | skip
  all_goals split <;> omega
theorem alc_mono (hp : WfP p) (hs : WfS p s) {f g c : Int} (hc : 0 ≤ c ∧ c ≤ 999) (h0 : 0 ≤ f) (h : f ≤ g) : alc p s c f ≤ alc p s c g := by
  refine sm_mono (fun r a b => ?_)
  have h2 := pr_bd hp hs a b
  have h3 := lee_bd hs a b hc
  refine wi_mono ?_ (by omega)
  unfold raw
  have h4 : pr p s r * f ≤ pr p s r * g := Int.mul_le_mul_of_nonneg_left h h2.1
  rw [tdivb (Int.mul_nonneg h2.1 h0), tdivb (Int.mul_nonneg h2.1 (by omega))]
  generalize pr p s r * f = x at *
  generalize pr p s r * g = y at *
  omega
theorem byN_bd (p : Pn) (s : Int → Int) : 0 ≤ byN p s ∧ byN p s ≤ 99999 := by
  have := ls_bd (P := obP p s) (n := 100000) (by decide)
  unfold byN ob
  split <;> omega
theorem chg_bd (hs : WfS p s) {r f : Int} (h0 : 0 ≤ r) (h1 : r < s 310) : -99999 ≤ chg p s f r ∧ chg p s f r ≤ 199998 := by
  have h2 := (hs.2.1 r h0 h1).2.2.1
  have h3 := cpd_bd (f := f) hs h0 h1 hs.1.2.2.1
  unfold chg
  omega
/-- the least one by halving -/
theorem ob_is (hp : WfP p) (hs : WfS p s) {v : Int} (h0 : 0 ≤ v) (h1 : v ≤ 99999) (ha : whl s ≤ alc p s (s 309) v) (hb : v = 0 ∨ alc p s (s 309) (v - 1) < whl s) : ob p s = v := by
  refine ls_yes h0 (by omega) (decide_eq_true ha) (fun j a b => decide_eq_false ?_)
  have := alc_mono hp hs hs.1.2.2.1 (f := j) (g := v - 1) a (by omega)
  omega
theorem ob_no (hp : WfP p) (hs : WfS p s) (h : alc p s (s 309) 99999 < whl s) : ob p s = -2 := by
  refine ls_no (fun j a b => decide_eq_false ?_)
  have := alc_mono hp hs hs.1.2.2.1 (f := j) (g := 99999) a (by omega)
  omega
variable {h : mH}
theorem c7_rawBy (R : Rf h p s) {K : Int → mH → Prop} {x1 x2 : Int} (h0 : 0 ≤ x1) (h1 : x1 < s 310) (hf : 0 ≤ x2 ∧ x2 ≤ 99999) (k : K (raw p s x1 x2) h) : OkJ M7_rawBy [mR 30 0, mI x1, mI x2] h K := by
  have := raw_bd R.2.2.1 R.2.2.2 h0 h1 hf
  exact s7_rawBy (c7_premiumOf R h0 h1 ⟨by omega, by omega, k⟩)
theorem c7_lowerEnd (R : Rf h p s) {K : Int → mH → Prop} {x1 : Int} (h0 : 0 ≤ x1) (h1 : x1 < s 310) (k : K (s (7 * x1 + 2) - lee s x1 (s 309)) h) : OkJ M7_lowerEnd [mR 30 0, mI x1] h K := by
  have h2 := R.m40
  have h3 := (R.2.2.2.2.1 x1 h0 h1).2.2.1
  have h5 := R.2.2.2.1.2.2.1
  have h4 := lee_bd R.2.2.2 h0 h1 h5
  refine s7_lowerEnd ⟨by omega, ?_⟩
  rw [R.es]
  exact ⟨by omega, by omega, by omega, k⟩
theorem c7_upperEnd (R : Rf h p s) {K : Int → mH → Prop} {x1 : Int} (h0 : 0 ≤ x1) (h1 : x1 < s 310) (k : K (s (7 * x1 + 2) + lee s x1 (s 309)) h) : OkJ M7_upperEnd [mR 30 0, mI x1] h K := by
  have h2 := R.m40
  have h3 := (R.2.2.2.2.1 x1 h0 h1).2.2.1
  have h5 := R.2.2.2.1.2.2.1
  have h4 := lee_bd R.2.2.2 h0 h1 h5
  refine s7_upperEnd ⟨by omega, ?_⟩
  rw [R.es]
  exact ⟨by omega, by omega, by omega, k⟩
theorem c7_cappedBy (R : Rf h p s) {K : Int → mH → Prop} {x1 x2 : Int} (h0 : 0 ≤ x1) (h1 : x1 < s 310) (hf : 0 ≤ x2 ∧ x2 ≤ 99999) (k : K (cpd p s (s 309) x1 x2) h) : OkJ M7_cappedBy [mR 30 0, mI x1, mI x2] h K := by
  have h2 := raw_bd R.2.2.1 R.2.2.2 h0 h1 hf
  have h3 := (R.2.2.2.2.1 x1 h0 h1).2.2.1
  have h4 := lee_bd R.2.2.2 h0 h1 R.2.2.2.1.2.2.1
  exact s7_cappedBy (c7_rawBy R h0 h1 hf (c7_lowerEnd R h0 h1 (c7_upperEnd R h0 h1 (c7_within (by omega) (by omega) (by omega) k))))
theorem c7_changeBy (R : Rf h p s) {K : Int → mH → Prop} {x1 x2 : Int} (h0 : 0 ≤ x1) (h1 : x1 < s 310) (hf : 0 ≤ x2 ∧ x2 ≤ 99999) (k : K (chg p s x2 x1) h) : OkJ M7_changeBy [mR 30 0, mI x1, mI x2] h K := by
  have h2 := R.m40
  have h3 := (R.2.2.2.2.1 x1 h0 h1).2.2.1
  refine s7_changeBy (c7_cappedBy R h0 h1 hf ⟨by omega, ?_⟩)
  rw [R.es]
  exact ⟨by omega, k⟩
theorem c7_allCapped (R : Rf h p s) {K : Int → mH → Prop} {x1 : Int} (hf : 0 ≤ x1 ∧ x1 ≤ 99999) (k : K (alc p s (s 309) x1) h) : OkJ M7_allCapped [mR 30 0, mI x1] h K := by
  have hm := R.m40
  refine s7_allCapped (upI (P := fun r => A7_allCapped_5 K x1 (sm (fun r => cpd p s (s 309) r x1) r) r h) (n := s 310) ?_ (fun r h5 h6 ih => ?_) 0 (by omega) (by omega))
  · exact s7_allCapped_5 (c7_many R ⟨by omega, fun _ => k, fun z => absurd (Int.le_refl _) z⟩)
  · rw [sm_s _ h5] at ih
    exact s7_allCapped_5 (c7_many R ⟨by omega, fun z => by omega, fun _ => c7_cappedBy R h5 h6 hf ih⟩)
theorem c7_offBalanceNow (R : Rf h p s) {K : Int → mH → Prop} (k : K (ob p s) h) : OkI M7_offBalanceNow [mR 30 0] h K := by
  have hp := R.2.2.1
  have hs := R.2.2.2
  have hw := whl_bd hs
  have ha := fun f => alc_bd (p := p) (f := f) hs hs.1.2.2.1
  have key : ∀ n : Nat, ∀ x3 x4 : Int, (x4 - x3).toNat ≤ n → -1 ≤ x3 → x3 < x4 → x4 ≤ 99999 → whl s ≤ alc p s (s 309) x4 → (x3 = -1 ∨ alc p s (s 309) x3 < whl s) → A7_offBalanceNow_26 K (whl s) x3 x4 h := by
    intro n
    induction n with
    | zero => intro x3 x4 a b c; omega
    | succ n ih =>
      intro x3 x4 a b c d e g
      refine s7_offBalanceNow_26 ⟨by omega, fun z => ?_, fun z => ?_⟩
      · rw [ob_is hp hs (v := x4) (by omega) d e (by
          rcases g with g | g
          · left; omega
          · right; rw [show x4 - 1 = x3 by omega]; exact g)] at k
        exact k
      · rw [tdivb (show 0 ≤ x3 + x4 by omega)]
        have := ha ((x3 + x4) / 2)
        refine ⟨by omega, c7_allCapped R (by omega) ⟨by omega, fun z2 => ih _ _ (by omega) (by omega) (by omega) d e (Or.inr z2), fun z2 => ih _ _ (by omega) b (by omega) (by omega) (by omega) g⟩⟩
  refine s7_offBalanceNow (c7_allOf R (by decide) (c7_allCapped R (by decide) ?_))
  have := ha 99999
  show (mInL (alc p s (s 309) 99999) ∧ mInL (whl s)) ∧ (whl s ≤ alc p s (s 309) 99999 → A7_offBalanceNow_26 K (whl s) (-1) 99999 h) ∧ (¬ whl s ≤ alc p s (s 309) 99999 → K (-2) h)
  refine ⟨by omega, fun z => key _ _ _ (Nat.le_refl _) (by decide) (by decide) (by decide) z (Or.inl rfl), fun z => ?_⟩
  rw [ob_no hp hs (by omega)] at k
  exact k
theorem c7_byNow (R : Rf h p s) {K : Int → mH → Prop} (k : K (byN p s) h) : OkI M7_byNow [mR 30 0] h K := by
  have hb := ls_bd (P := obP p s) (n := 100000) (by decide)
  have hb2 : mInR (ob p s) := by unfold ob; omega
  unfold byN at k
  refine s7_byNow (c7_offBalanceNow R ⟨hb2, fun z => ?_, fun z => ?_⟩)
  · rw [if_neg z] at k; exact k
  · rw [if_pos z] at k; exact k
/-- how many risks, by what -/
def chP (p : Pn) (s : Int → Int) (w f r : Int) : Bool := if w = 0 then decide (0 < chg p s f r) else if w = 1 then decide (chg p s f r < 0) else if w = 2 then decide (raw p s r f < s (7 * r + 2) - lee s r (s 309)) else decide (s (7 * r + 2) + lee s r (s 309) < raw p s r f)
def chs (p : Pn) (s : Int → Int) (w : Int) : Int := sm (fun r => if chP p s w (byN p s) r then 1 else 0) (s 310)
theorem c7_changes (R : Rf h p s) {K : Int → mH → Prop} {x1 : Int} (hx : 0 ≤ x1 ∧ x1 ≤ 3) (k : K (chs p s x1) h) : A7_changes_26 K x1 (byN p s) 0 0 h := by
  have hm := R.m40
  have hf := byN_bd p s
  have hs := R.2.2.2
  refine upI (P := fun r => A7_changes_26 K x1 (byN p s) (sm (fun r => if chP p s x1 (byN p s) r then 1 else 0) r) r h) (n := s 310) ?_ (fun r h5 h6 ih => ?_) 0 (by omega) (by omega)
  · exact s7_changes_26 (c7_many R ⟨by omega, fun _ => k, fun z => absurd (Int.le_refl _) z⟩)
  · rw [sm_s _ h5] at ih
    have h3 := (hs.2.1 r h5 h6).2.2.1
    have h4 := lee_bd hs h5 h6 hs.1.2.2.1
    have h7 := raw_bd R.2.2.1 hs h5 h6 hf
    have h8 := chg_bd (f := byN p s) hs h5 h6
    have yes : chP p s x1 (byN p s) r = true → A7_changes_136 K x1 (byN p s) (sm (fun r => if chP p s x1 (byN p s) r then 1 else 0) r) r 1 h := by
      intro z
      rw [z] at ih
      exact s7_changes_136 ⟨by decide, fun w => absurd w (by decide), fun _ => ih⟩
    have no : chP p s x1 (byN p s) r = false → A7_changes_136 K x1 (byN p s) (sm (fun r => if chP p s x1 (byN p s) r then 1 else 0) r) r 0 h := by
      intro z
      rw [z] at ih
      exact s7_changes_136 ⟨by decide, fun _ => ih, fun w => absurd rfl w⟩
    unfold chP at yes no
    refine s7_changes_26 (c7_many R ⟨by omega, fun z => by omega, fun _ => ⟨by omega, fun z0 => ⟨by omega, fun z1 => ⟨by omega, fun z2 => ?_, fun z2 => ?_⟩, fun z1 => ?_⟩, fun z0 => ?_⟩⟩)
    · rw [if_neg z0, if_neg z1, if_neg z2] at yes no
      exact c7_rawBy R h5 h6 hf (c7_upperEnd R h5 h6 ⟨by omega, fun w => no (decide_eq_false (by omega)), fun w => yes (decide_eq_true (by omega))⟩)
    · rw [if_neg z0, if_neg z1, if_pos z2] at yes no
      exact c7_rawBy R h5 h6 hf (c7_lowerEnd R h5 h6 ⟨by omega, fun w => no (decide_eq_false (by omega)), fun w => yes (decide_eq_true (by omega))⟩)
    · rw [if_neg z0, if_pos z1] at yes no
      exact c7_changeBy R h5 h6 hf ⟨by omega, fun w => no (decide_eq_false (by omega)), fun w => yes (decide_eq_true (by omega))⟩
    · rw [if_pos z0] at yes no
      exact c7_changeBy R h5 h6 hf ⟨by omega, fun w => no (decide_eq_false (by omega)), fun w => yes (decide_eq_true (by omega))⟩
/-- the hardest hit -/
def haG (p : Pn) (s : Int → Int) (w r a : Int) : Int := if a = -2 ∨ (if w = 0 then chg p s (byN p s) a < chg p s (byN p s) r else chg p s (byN p s) r < chg p s (byN p s) a) then r else a
def har (p : Pn) (s : Int → Int) (w : Int) : Int := fl (haG p s w) (-2) (s 310)
theorem c7_hardest (R : Rf h p s) {K : Int → mH → Prop} {x1 : Int} (hx : 0 ≤ x1 ∧ x1 ≤ 1) (k : K (har p s x1) h) : A7_hardest_27 K x1 (byN p s) (-2) 0 h := by
  have hm := R.m40
  have hf := byN_bd p s
  have hs := R.2.2.2
  refine upI (P := fun r => A7_hardest_27 K x1 (byN p s) (fl (haG p s x1) (-2) r) r h) (n := s 310) ?_ (fun r h5 h6 ih => ?_) 0 (by omega) (by omega)
  · exact s7_hardest_27 (c7_many R ⟨by omega, fun _ => k, fun z => absurd (Int.le_refl _) z⟩)
  · have hb : fl (haG p s x1) (-2) r = -2 ∨ (0 ≤ fl (haG p s x1) (-2) r ∧ fl (haG p s x1) (-2) r < s 310) := fl_inv (fun a : Int => a = -2 ∨ (0 ≤ a ∧ a < s 310)) r (Or.inl rfl) (fun i b a c hb => by
      have e : haG p s x1 i b = i ∨ haG p s x1 i b = b := by
        unfold haG
        by_cases c : (b = -2 ∨ (if x1 = 0 then chg p s (byN p s) b < chg p s (byN p s) i else chg p s (byN p s) i < chg p s (byN p s) b))
        · exact Or.inl (if_pos c)
        · exact Or.inr (if_neg c)
      rcases e with e | e
      · rw [e]; right; omega
      · rw [e]; exact hb) r h5 (Int.le_refl _)
    rw [fl_s _ _ h5] at ih
    revert ih hb
    generalize fl (haG p s x1) (-2) r = a
    intro ih hb
    have h8 := chg_bd (f := byN p s) hs h5 h6
    refine s7_hardest_27 (c7_many R ⟨by omega, fun z => by omega, fun _ => ⟨by omega, fun z => ?_, fun z => ?_⟩⟩)
    · rw [show haG p s x1 r a = r from if_pos (Or.inl z)] at ih; exact ih
    · have h9 := chg_bd (f := byN p s) (r := a) hs (by omega) (by omega)
      refine ⟨by omega, fun z2 => c7_changeBy R h5 h6 hf (c7_changeBy R (by omega) (by omega) hf ⟨by omega, fun z3 => ?_, fun z3 => ?_⟩), fun z2 => c7_changeBy R h5 h6 hf (c7_changeBy R (by omega) (by omega) hf ⟨by omega, fun z3 => ?_, fun z3 => ?_⟩)⟩
      · rw [show haG p s x1 r a = a from if_neg (fun w => by rw [if_neg z2] at w; omega)] at ih; exact ih
      · rw [show haG p s x1 r a = r from if_pos (Or.inr (by rw [if_neg z2]; omega))] at ih; exact ih
      · rw [show haG p s x1 r a = a from if_neg (fun w => by rw [if_pos z2] at w; omega)] at ih; exact ih
      · rw [show haG p s x1 r a = r from if_pos (Or.inr (by rw [if_pos z2]; omega))] at ih; exact ih
/-- how many are ahead of a risk -/
def rkL (p : Pn) (s : Int → Int) (r q : Int) : Int := if chg p s (byN p s) q - chg p s (byN p s) r < 0 ∨ (chg p s (byN p s) q - chg p s (byN p s) r = 0 ∧ q < r) then 1 else 0
def rk (p : Pn) (s : Int → Int) (r : Int) : Int := sm (rkL p s r) (s 310)
def rkd (p : Pn) (s : Int → Int) (k : Int) : Int := ls (fun r => decide (rk p s r = k)) (s 310)
theorem rk_bd (hs : WfS p s) (r : Int) {n : Int} (h0 : 0 ≤ n) (h1 : n ≤ s 310) : 0 ≤ sm (rkL p s r) n ∧ sm (rkL p s r) n ≤ 40 := by
  have hm := hs.1.1
  have := sm_bd (w := rkL p s r) (a := 0) (b := 1) h0 (fun q _ _ => by unfold rkL; split <;> decide)
  omega
theorem c7_ranked (R : Rf h p s) {K : Int → mH → Prop} {x1 : Int} (hx : mInR x1) (k : K (rkd p s x1) h) : A7_ranked_18 K x1 (byN p s) 0 h := by
  have hm := R.m40
  have hf := byN_bd p s
  have hs := R.2.2.2
  refine upI (P := fun r => (∀ j, 0 ≤ j → j < r → decide (rk p s j = x1) = false) → A7_ranked_18 K x1 (byN p s) r h) (n := s 310) (fun hj => ?_) (fun r h5 h6 ih hj => ?_) 0 (by omega) (by omega) (fun j a b => by omega)
  · rw [show rkd p s x1 = -2 from ls_no hj] at k
    exact s7_ranked_18 (c7_many R ⟨by omega, fun _ => k, fun z => absurd (Int.le_refl _) z⟩)
  · refine s7_ranked_18 (c7_many R ⟨by omega, fun z => by omega, fun _ => ?_⟩)
    refine upI (P := fun q => A7_ranked_32 K x1 (byN p s) r (sm (rkL p s r) q) q h) (n := s 310) ?_ (fun q h7 h8 jh => ?_) 0 (by omega) (by omega)
    · have hb := rk_bd (p := p) hs r hm.1 (Int.le_refl _)
      refine s7_ranked_32 (c7_many R ⟨by omega, fun _ => ⟨by omega, fun z => ?_, fun z => ?_⟩, fun z => absurd (Int.le_refl _) z⟩)
      · refine ih (fun j a b => ?_)
        by_cases c : j = r
        · rw [c]; exact decide_eq_false z
        · exact hj j a (by omega)
      · rw [show rkd p s x1 = r from ls_yes h5 h6 (decide_eq_true z) hj] at k
        exact k
    · rw [sm_s _ h7] at jh
      have h9 := chg_bd (f := byN p s) hs h5 h6
      have h10 := chg_bd (f := byN p s) hs h7 h8
      refine s7_ranked_32 (c7_many R ⟨by omega, fun z => by omega, fun _ => c7_changeBy R h7 h8 hf (c7_changeBy R h5 h6 hf ⟨by omega, fun z => ?_, fun z => ⟨by omega, fun z2 => ?_, fun z2 => ⟨by omega, fun z3 => ?_, fun z3 => ?_⟩⟩⟩)⟩)
      · rw [show rkL p s r q = 1 from if_pos (Or.inl z)] at jh; exact jh
      · rw [show rkL p s r q = 0 from if_neg (by omega)] at jh; exact jh
      · rw [show rkL p s r q = 0 from if_neg (by omega)] at jh; exact jh
      · rw [show rkL p s r q = 1 from if_pos (Or.inr (by omega))] at jh; exact jh
end REF11
