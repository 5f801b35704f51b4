/-! a text: what is read, line by line -/
abbrev Rd : Type := Int × Pn × (Int → Int) × (Int → Int) × (Int → Int) × (Int → Int) × Int
def dI (r : Rd) : Int := r.1
def dP (r : Rd) : Pn := r.2.1
def dN (r : Rd) : Int → Int := r.2.2.1
def dS (r : Rd) : Int → Int := r.2.2.2.1
def dW (r : Rd) : Int → Int := r.2.2.2.2.1
def dB (r : Rd) : Int → Int := r.2.2.2.2.2.1
def dL (r : Rd) : Int := r.2.2.2.2.2.2
abbrev Er : Type := Sum (Int × Int) Rd
def badE (k p : Int) : Er := Sum.inl (k, p)
def nuK (t : Int → Int) (n i lo hi : Int) (ok : Int → Er) : Er := if tS t n i = 2 then (if lo ≤ tV t n i ∧ tV t n i ≤ hi then ok (tV t n i) else badE 2 (tP t n i)) else badE 1 (tP t n i)
def fnd (p : Pn) (nm : Int → Int) (x : Int) : Int := if ls (fun f => decide (nm f = x)) (nf p) = -2 then -1 else ls (fun f => decide (nm f = x)) (nf p)
def setP (p : Pn) (w v : Int) : Pn := ((nf p, (if w = 1 then v else bd p), (if w = 3 then v else sd p)), lv p, lo p, hi p)
def setS (s : Int → Int) (w v : Int) : Int → Int := if w = 0 then up s 308 v else if w = 2 then up s 309 v else if w = 4 then up s 311 v else if w = 5 then up s 312 v else s
def loW (w : Int) : Int := if w = 0 ∨ w = 5 then 1 else 0
def hiW (w : Int) : Int := if w = 0 ∨ w = 3 then 99999 else if w = 5 then 99 else 999
def facP (p : Pn) (v : Int) : Pn := ((nf p + 1, bd p, sd p), up (lv p) (nf p) v, up (lo p) (nf p) 1000, up (hi p) (nf p) 50000)
def bandP (p : Pn) (f a b : Int) : Pn := ((nf p, bd p, sd p), lv p, up (lo p) f a, up (hi p) f b)
section PARSE
variable (t : Int → Int) (n : Int)
def bdSet (r : Rd) (w : Int) : Er := if dW r w = 0 then nuK t n (tE t n (dI r)) (loW w) (hiW w) (fun v => if w = 5 then nuK t n (tE t n (tE t n (dI r))) 0 500 (fun v2 => Sum.inr (tE t n (tE t n (tE t n (dI r))), setP (dP r) w v, dN r, up (setS (dS r) w v) 313 v2, up (dW r) w 1, dB r, dL r)) else Sum.inr (tE t n (tE t n (dI r)), setP (dP r) w v, dN r, setS (dS r) w v, up (dW r) w 1, dB r, dL r)) else badE 3 (tP t n (dI r))
def bdFac (r : Rd) : Er := if 0 < dS r 310 then badE 1 (tP t n (dI r)) else if nf (dP r) = 4 then badE 2 (tP t n (dI r)) else if tS t n (tE t n (dI r)) = 1 then (if fnd (dP r) (dN r) (tV t n (tE t n (dI r))) = -1 then nuK t n (tE t n (tE t n (dI r))) 1 6 (fun v => Sum.inr (tE t n (tE t n (tE t n (dI r))), facP (dP r) v, up (dN r) (nf (dP r)) (tV t n (tE t n (dI r))), dS r, dW r, dB r, dL r)) else badE 3 (tP t n (tE t n (dI r)))) else badE 1 (tP t n (tE t n (dI r)))
/-- the factor that is named -/
def faK (r : Rd) (ok : Int → Er) : Er := if tS t n (tE t n (dI r)) = 1 then (if fnd (dP r) (dN r) (tV t n (tE t n (dI r))) = -1 then badE 4 (tP t n (tE t n (dI r))) else ok (fnd (dP r) (dN r) (tV t n (tE t n (dI r))))) else badE 1 (tP t n (tE t n (dI r)))
def bdBand (r : Rd) : Er := faK t n r (fun f => if dB r f = 0 then nuK t n (tE t n (tE t n (dI r))) 1 10000 (fun a => nuK t n (tE t n (tE t n (tE t n (dI r)))) 10000 99999 (fun b => Sum.inr (tE t n (tE t n (tE t n (tE t n (dI r)))), bandP (dP r) f a b, dN r, dS r, dW r, up (dB r) f 1, dL r))) else badE 3 (tP t n (tE t n (dI r))))
def bdJoin (r : Rd) : Er := faK t n r (fun f => if tS t n (tE t n (tE t n (dI r))) = 2 then (if tV t n (tE t n (tE t n (dI r))) < lv (dP r) f - 1 then (if jb (dS r (304 + f)) (tV t n (tE t n (tE t n (dI r)))) = true then badE 3 (tP t n (tE t n (tE t n (dI r)))) else Sum.inr (tE t n (tE t n (tE t n (dI r))), dP r, dN r, up (dS r) (304 + f) (mOr (dS r (304 + f)) (mShl 1 (tV t n (tE t n (tE t n (dI r)))))), dW r, dB r, dL r)) else badE 2 (tP t n (tE t n (tE t n (dI r))))) else badE 1 (tP t n (tE t n (tE t n (dI r)))))
def lvK (p : Pn) : Nat → Int → Int → Int → (Int → Int → Er) → Er
  | 0, _, i, x, ok => ok i x
  | m + 1, f, i, x, ok => nuK t n i 0 (lv p f - 1) (fun v => lvK p m (f + 1) (tE t n i) (mOr x (mShl v (f * 3))) ok)
def bdRisk (r : Rd) : Er := if dS r 310 = 40 then badE 2 (tP t n (dI r)) else nuK t n (tE t n (dI r)) 1 99 (fun e => nuK t n (tE t n (tE t n (dI r))) 0 99999 (fun c => nuK t n (tE t n (tE t n (tE t n (dI r)))) 1 99999 (fun o => lvK t n (dP r) (nf (dP r)).toNat 0 (tE t n (tE t n (tE t n (tE t n (dI r))))) 0 (fun i x => Sum.inr (i, dP r, dN r, adS (dS r) e c o x, dW r, dB r, dL r)))))
def bdF (r : Rd) : Er := if tS t n (dI r) = 0 then (if tV t n (dI r) ≤ 5 then bdSet t n r (tV t n (dI r)) else if tV t n (dI r) = 6 then bdFac t n r else if tV t n (dI r) = 7 then bdBand t n r else if tV t n (dI r) = 8 then bdJoin t n r else bdRisk t n r) else badE 1 (tP t n (dI r))
def stF (r : Rd) : Er := if tS t n (dI r) = 3 then Sum.inr (tE t n (dI r), dP r, dN r, dS r, dW r, dB r, dL r + 1) else badE 1 (tP t n (dI r))
def liF (r : Rd) : Er := match bdF t n r with
  | Sum.inl e => Sum.inl e
  | Sum.inr r2 => stF t n r2
def spF : Er → Er
  | Sum.inl e => Sum.inl e
  | Sum.inr r => if tS t n (dI r) = 4 then Sum.inr r else liF t n r
def itF : Nat → Er → Er
  | 0, x => x
  | m + 1, x => itF m (spF t n x)
def p00 : Pn := ((0, 10, 0), fun _ => 0, fun _ => 0, fun _ => 0)
def s00 : Int → Int := fun j => if 280 ≤ j ∧ j < 304 then 10000 else if j = 308 then 1000 else if j = 309 then 250 else if j = 312 then 99 else 0
def r00 : Rd := (0, p00, fun _ => 0, s00, fun _ => 0, fun _ => 0, 0)
def txF : Er := itF t n 1000 (Sum.inr r00)
end PARSE
/-- what is read is a plan and a book -/
def WfD (n : Int) (r : Rd) : Prop := (0 ≤ dI r ∧ dI r ≤ n) ∧ WfP (dP r) ∧ WfS (dP r) (dS r) ∧ (∀ f, 0 ≤ f → f < nf (dP r) → mInR (dN r f)) ∧ (∀ j, 280 ≤ j → j < 304 → dS r j = 10000) ∧ (∀ f, nf (dP r) ≤ f → f < 4 → dS r (304 + f) = 0 ∧ dB r f = 0) ∧ (∀ f, dB r f = 0 ∨ dB r f = 1) ∧ (∀ w, dW r w = 0 ∨ dW r w = 1)
section PWF
variable {t : Int → Int} {n : Int} {r : Rd}
theorem it_bad (m : Nat) (e : Int × Int) : itF t n m (Sum.inl e) = Sum.inl e := by
  induction m with
  | zero => rfl
  | succ m ih => exact ih
theorem it_end (m : Nat) (h : tS t n (dI r) = 4) : itF t n m (Sum.inr r) = Sum.inr r := by
  induction m with
  | zero => rfl
  | succ m ih =>
    show itF t n m (spF t n (Sum.inr r)) = _
    have e : spF t n (Sum.inr r) = Sum.inr r := if_pos h
    rw [e]
    exact ih
theorem it_go (m : Nat) (h : tS t n (dI r) ≠ 4) : itF t n (m + 1) (Sum.inr r) = itF t n m (liF t n r) := by
  show itF t n m (spF t n (Sum.inr r)) = _
  have e : spF t n (Sum.inr r) = liF t n r := if_neg h
  rw [e]
theorem WfP.set {p : Pn} (hp : WfP p) {w v : Int} (h1 : w = 1 → 0 ≤ v ∧ v ≤ 999) (h3 : w = 3 → 0 ≤ v ∧ v ≤ 99999) : WfP (setP p w v) := by
  obtain ⟨⟨a, b, c⟩, d⟩ := hp
  refine ⟨⟨a, ?_, ?_⟩, d⟩
  · show 0 ≤ (if w = 1 then v else bd p) ∧ (if w = 1 then v else bd p) ≤ 999
    by_cases z : w = 1
    · rw [if_pos z]; exact h1 z
    · rw [if_neg z]; exact b
  · show 0 ≤ (if w = 3 then v else sd p) ∧ (if w = 3 then v else sd p) ≤ 99999
    by_cases z : w = 3
    · rw [if_pos z]; exact h3 z
    · rw [if_neg z]; exact c
theorem WfS.num {p p2 : Pn} {s s2 : Int → Int} (hp : WfP p) (hs : WfS p s) (e1 : nf p2 = nf p) (e2 : lv p2 = lv p) (e3 : lo p2 = lo p) (e4 : hi p2 = hi p) (e5 : ∀ j, j < 308 ∨ j = 310 → s2 j = s j) (hN : WfN s2) : WfS p2 s2 := by
  obtain ⟨a, b, c, d⟩ := hs
  have hn := hp.1.1
  refine ⟨hN, fun r x y => ?_, fun f x y l z w => ?_, fun f x y l z w u => ?_⟩
  · rw [e5 310 (by omega)] at y
    have hm := a.1
    have := b r x y
    unfold WfR at this ⊢
    rw [e5 (7 * r + 0) (by omega), e5 (7 * r + 1) (by omega), e5 (7 * r + 2) (by omega), e1, e2]
    refine ⟨this.1, this.2.1, this.2.2.1, fun f u v => ?_⟩
    rw [e5 (7 * r + 3 + f) (by omega)]
    exact this.2.2.2 f u v
  · rw [e1] at y
    rw [e2] at w
    have := hp.2 f x y
    rw [e3, e4, e5 _ (by omega)]
    exact c f x y l z w
  · rw [e1] at y
    rw [e5 (304 + f) (by omega)] at u
    have h6 := hp.2 f x y
    have := d f x y l z w u
    rw [e2, e5 (280 + 6 * f + l) (by omega), e5 (280 + 6 * f + (l + 1)) (by omega)]
    exact this
theorem wfN_up {s s2 : Int → Int} (h : WfN s) {k v : Int} (e : s2 = up s k v) (hk : k = 308 ∧ (1 ≤ v ∧ v ≤ 99999) ∨ k = 309 ∧ (0 ≤ v ∧ v ≤ 999) ∨ k = 311 ∧ (0 ≤ v ∧ v ≤ 999) ∨ k = 312 ∧ (1 ≤ v ∧ v ≤ 99) ∨ k = 313 ∧ (0 ≤ v ∧ v ≤ 500)) : WfN s2 := by
  subst e
  unfold WfN at h ⊢
  unfold up
  rcases hk with ⟨rfl, hv⟩ | ⟨rfl, hv⟩ | ⟨rfl, hv⟩ | ⟨rfl, hv⟩ | ⟨rfl, hv⟩ <;> simp <;> omega
theorem setS_in (s : Int → Int) (w v j : Int) (h : j < 308 ∨ j = 310 ∨ j = 313) : setS s w v j = s j := by
  unfold setS
  repeat' split
  all_goals first | rfl | exact up_ne (by omega)
theorem wf_set (W : WfD n r) {i w v : Int} (hii : 0 ≤ i ∧ i ≤ n) (hw : 0 ≤ w ∧ w ≤ 5) (hv : loW w ≤ v ∧ v ≤ hiW w) : WfD n (i, setP (dP r) w v, dN r, setS (dS r) w v, up (dW r) w 1, dB r, dL r) := by
  obtain ⟨w1, w2, w3, w4, w5, w6, w7, w8⟩ := W
  have hN : WfN (setS (dS r) w v) := by
    unfold setS
    unfold loW hiW at hv
    have : w = 0 ∨ w = 1 ∨ w = 2 ∨ w = 3 ∨ w = 4 ∨ w = 5 := by omega
    rcases this with rfl | rfl | rfl | rfl | rfl | rfl
    · exact wfN_up w3.1 rfl (by simp at hv ⊢; omega)
    · exact w3.1
    · exact wfN_up w3.1 rfl (by simp at hv ⊢; omega)
    · exact w3.1
    · exact wfN_up w3.1 rfl (by simp at hv ⊢; omega)
    · exact wfN_up w3.1 rfl (by simp at hv ⊢; omega)
  have hP : WfP (setP (dP r) w v) := w2.set (fun z => by subst z; unfold loW hiW at hv; simp at hv; omega) (fun z => by subst z; unfold loW hiW at hv; simp at hv; omega)
  refine ⟨hii, hP, w3.num w2 rfl rfl rfl rfl (fun j hj => setS_in _ _ _ _ (by omega)) hN, w4, fun j a b => ?_, fun f a b => ?_, w7, fun x => ?_⟩
  · show setS (dS r) w v j = 10000
    rw [setS_in _ _ _ _ (by omega)]; exact w5 j a b
  · show setS (dS r) w v (304 + f) = 0 ∧ dB r f = 0
    rw [setS_in _ _ _ _ (by omega)]; exact w6 f a b
  · show up (dW r) w 1 x = 0 ∨ up (dW r) w 1 x = 1
    unfold up
    by_cases z : x = w
    · rw [if_pos z]; exact Or.inr rfl
    · rw [if_neg z]; exact w8 x
theorem wf_off (W : WfD n r) {i v : Int} (hii : 0 ≤ i ∧ i ≤ n) (hv : 0 ≤ v ∧ v ≤ 500) : WfD n (i, dP r, dN r, up (dS r) 313 v, dW r, dB r, dL r) := by
  obtain ⟨w1, w2, w3, w4, w5, w6, w7, w8⟩ := W
  refine ⟨hii, w2, w3.num w2 rfl rfl rfl rfl (fun j hj => up_ne (by omega)) (wfN_up w3.1 rfl (by omega)), w4, fun j a b => ?_, fun f a b => ?_, w7, w8⟩
  · show up (dS r) 313 v j = 10000
    rw [up_ne (by omega)]; exact w5 j a b
  · show up (dS r) 313 v (304 + f) = 0 ∧ dB r f = 0
    have hn := w2.1.1
    rw [up_ne (by have : nf (dP r) ≤ f := a; omega)]; exact w6 f a b
theorem wf_at (W : WfD n r) {i l : Int} (hii : 0 ≤ i ∧ i ≤ n) : WfD n (i, dP r, dN r, dS r, dW r, dB r, l) := ⟨hii, W.2⟩
theorem wf_fac (W : WfD n r) {i v x : Int} (hii : 0 ≤ i ∧ i ≤ n) (h0 : ¬ 0 < dS r 310) (h4 : nf (dP r) ≠ 4) (hv : 1 ≤ v ∧ v ≤ 6) (hx : mInR x) : WfD n (i, facP (dP r) v, up (dN r) (nf (dP r)) x, dS r, dW r, dB r, dL r) := by
  obtain ⟨w1, w2, w3, w4, w5, w6, w7, w8⟩ := W
  have hn := w2.1.1
  have en : nf (facP (dP r) v) = nf (dP r) + 1 := rfl
  have hP : WfP (facP (dP r) v) := by
    refine ⟨⟨by rw [en]; omega, w2.1.2⟩, fun f a b => ?_⟩
    rw [en] at b
    show (1 ≤ up (lv (dP r)) (nf (dP r)) v f ∧ up (lv (dP r)) (nf (dP r)) v f ≤ 6) ∧ (1 ≤ up (lo (dP r)) (nf (dP r)) 1000 f ∧ up (lo (dP r)) (nf (dP r)) 1000 f ≤ 10000) ∧ (10000 ≤ up (hi (dP r)) (nf (dP r)) 50000 f ∧ up (hi (dP r)) (nf (dP r)) 50000 f ≤ 99999)
    by_cases z : f = nf (dP r)
    · subst z
      rw [up_same, up_same, up_same]; omega
    · rw [up_ne z, up_ne z, up_ne z]; exact w2.2 f a (by omega)
  have hS : WfS (facP (dP r) v) (dS r) := by
    refine ⟨w3.1, fun q a b => by have := w3.1.1; omega, fun f a b l c d => ?_, fun f a b l c d e => ?_⟩
    · rw [en] at b
      have hl := hP.2 f a (by rw [en]; exact b)
      rw [w5 (280 + 6 * f + l) (by omega) (by omega)]
      exact ⟨hl.2.1.2, hl.2.2.1⟩
    · rw [en] at b
      by_cases z : f = nf (dP r)
      · rw [z, (w6 (nf (dP r)) (Int.le_refl _) (by omega)).1, jb_0 c d] at e
        cases e
      · have h2 := w3.2.2.2 f a (by omega) l c d e
        show l + 1 < up (lv (dP r)) (nf (dP r)) v f ∧ _
        rw [up_ne z]
        exact h2
  refine ⟨hii, hP, hS, fun f a b => ?_, w5, fun f a b => w6 f (by have : nf (dP r) + 1 ≤ f := a; omega) b, w7, w8⟩
  show mInR (up (dN r) (nf (dP r)) x f)
  have b2 : f < nf (dP r) + 1 := b
  by_cases z : f = nf (dP r)
  · rw [z, up_same]; exact hx
  · rw [up_ne z]; exact w4 f a (by omega)
theorem wf_band (W : WfD n r) {i f a b : Int} (hii : 0 ≤ i ∧ i ≤ n) (hf : 0 ≤ f ∧ f < nf (dP r)) (ha : 1 ≤ a ∧ a ≤ 10000) (hb : 10000 ≤ b ∧ b ≤ 99999) : WfD n (i, bandP (dP r) f a b, dN r, dS r, dW r, up (dB r) f 1, dL r) := by
  obtain ⟨w1, w2, w3, w4, w5, w6, w7, w8⟩ := W
  have hn := w2.1.1
  have hP : WfP (bandP (dP r) f a b) := by
    refine ⟨w2.1, fun g c d => ?_⟩
    have h := w2.2 g c d
    show (1 ≤ lv (dP r) g ∧ lv (dP r) g ≤ 6) ∧ (1 ≤ up (lo (dP r)) f a g ∧ up (lo (dP r)) f a g ≤ 10000) ∧ (10000 ≤ up (hi (dP r)) f b g ∧ up (hi (dP r)) f b g ≤ 99999)
    by_cases z : g = f
    · rw [z, up_same, up_same, ← z]; exact ⟨h.1, ha, hb⟩
    · rw [up_ne z, up_ne z]; exact h
  refine ⟨hii, hP, ⟨w3.1, w3.2.1, fun g c d l x y => ?_, w3.2.2.2⟩, w4, w5, fun g c d => ⟨(w6 g c d).1, ?_⟩, fun g => ?_, w8⟩
  · have hl := hP.2 g c d
    have e5 : dS (i, bandP (dP r) f a b, dN r, dS r, dW r, up (dB r) f 1, dL r) (280 + 6 * g + l) = 10000 := w5 (280 + 6 * g + l) (by omega) (by have : g < nf (dP r) := d; have : l < lv (dP r) g := y; have := (w2.2 g c d).1; omega)
    rw [e5]
    exact ⟨hl.2.1.2, hl.2.2.1⟩
  · show up (dB r) f 1 g = 0
    have : nf (dP r) ≤ g := c
    rw [up_ne (by omega)]; exact (w6 g c d).2
  · show up (dB r) f 1 g = 0 ∨ up (dB r) f 1 g = 1
    unfold up
    by_cases z : g = f
    · rw [if_pos z]; exact Or.inr rfl
    · rw [if_neg z]; exact w7 g
theorem wf_join (W : WfD n r) {i f l : Int} (hii : 0 ≤ i ∧ i ≤ n) (hf : 0 ≤ f ∧ f < nf (dP r)) (hl : 0 ≤ l ∧ l < lv (dP r) f - 1) : WfD n (i, dP r, dN r, up (dS r) (304 + f) (mOr (dS r (304 + f)) (mShl 1 l)), dW r, dB r, dL r) := by
  obtain ⟨w1, w2, w3, w4, w5, w6, w7, w8⟩ := W
  have hn := w2.1.1
  have hlv := w2.2 f hf.1 hf.2
  have hm := w3.1.1
  refine ⟨hii, w2, ⟨?_, fun q c d => ?_, fun g c d k x y => ?_, fun g c d k x y z => ?_⟩, w4, fun j c d => ?_, fun g c d => ?_, w7, w8⟩
  · have := w3.1
    unfold WfN at this ⊢
    show (0 ≤ up (dS r) (304 + f) _ 310 ∧ up (dS r) (304 + f) _ 310 ≤ 40) ∧ _
    rw [up_ne (by omega)]
    show _ ∧ (1 ≤ up (dS r) (304 + f) _ 308 ∧ up (dS r) (304 + f) _ 308 ≤ 99999) ∧ (0 ≤ up (dS r) (304 + f) _ 309 ∧ up (dS r) (304 + f) _ 309 ≤ 999) ∧ (0 ≤ up (dS r) (304 + f) _ 311 ∧ up (dS r) (304 + f) _ 311 ≤ 999) ∧ (1 ≤ up (dS r) (304 + f) _ 312 ∧ up (dS r) (304 + f) _ 312 ≤ 99) ∧ (0 ≤ up (dS r) (304 + f) _ 313 ∧ up (dS r) (304 + f) _ 313 ≤ 500)
    rw [up_ne (by omega), up_ne (by omega), up_ne (by omega), up_ne (by omega), up_ne (by omega)]
    exact this
  · have d2 : q < up (dS r) (304 + f) (mOr (dS r (304 + f)) (mShl 1 l)) 310 := d
    rw [up_ne (by omega)] at d2
    have := w3.2.1 q c d2
    show WfR (dP r) (up (dS r) (304 + f) (mOr (dS r (304 + f)) (mShl 1 l))) q
    unfold WfR at this ⊢
    rw [up_ne (by omega), up_ne (by omega), up_ne (by omega)]
    refine ⟨this.1, this.2.1, this.2.2.1, fun g x y => ?_⟩
    rw [up_ne (by omega)]
    exact this.2.2.2 g x y
  · have hg := w2.2 g c d
    have d2 : g < nf (dP r) := d
    have y2 : k < lv (dP r) g := y
    show lo (dP r) g ≤ up (dS r) (304 + f) _ (280 + 6 * g + k) ∧ up (dS r) (304 + f) _ (280 + 6 * g + k) ≤ hi (dP r) g
    rw [up_ne (by omega)]
    exact w3.2.2.1 g c d k x y
  · have hg := w2.2 g c d
    have d2 : g < nf (dP r) := d
    have z2 : jb (up (dS r) (304 + f) (mOr (dS r (304 + f)) (mShl 1 l)) (304 + g)) k = true := z
    show k + 1 < lv (dP r) g ∧ up (dS r) (304 + f) _ (280 + 6 * g + k) = up (dS r) (304 + f) _ (280 + 6 * g + (k + 1))
    have main : k + 1 < lv (dP r) g := by
      by_cases u : g = f
      · rw [u, up_same, jb_or hl.1 (by omega) x y] at z2
        by_cases v : k = l
        · rw [v, u]; omega
        · rw [decide_eq_false v, Bool.or_false] at z2
          rw [u]
          exact (w3.2.2.2 f hf.1 hf.2 k x y z2).1
      · rw [up_ne (by omega)] at z2
        exact (w3.2.2.2 g c d k x y z2).1
    refine ⟨main, ?_⟩
    rw [up_ne (by omega), up_ne (by omega), w5 _ (by omega) (by omega), w5 _ (by omega) (by omega)]
  · show up (dS r) (304 + f) _ j = 10000
    rw [up_ne (by omega)]; exact w5 j c d
  · have c2 : nf (dP r) ≤ g := c
    show up (dS r) (304 + f) _ (304 + g) = 0 ∧ dB r g = 0
    rw [up_ne (by omega)]; exact w6 g c d
theorem wf_risk (W : WfD n r) {i e c o x : Int} (hii : 0 ≤ i ∧ i ≤ n) (h40 : dS r 310 ≠ 40) (he : 1 ≤ e ∧ e ≤ 99) (hc : 0 ≤ c ∧ c ≤ 99999) (ho : 1 ≤ o ∧ o ≤ 99999) (hx : vld (dP r) x) : WfD n (i, dP r, dN r, adS (dS r) e c o x, dW r, dB r, dL r) := by
  obtain ⟨w1, w2, w3, w4, w5, w6, w7, w8⟩ := W
  have hn := w2.1.1
  have hm := w3.1.1
  have hj : ∀ j, 280 ≤ j → j ≠ 310 → adS (dS r) e c o x j = dS r j := by
    intro j a b
    unfold adS
    rw [if_neg b, if_neg (by omega), if_neg (by omega), if_neg (by omega), if_neg (by omega)]
  refine ⟨hii, w2, adS_wf w2 w3 (by omega) he hc ho hx, w4, fun j a b => ?_, fun f a b => ?_, w7, w8⟩
  · show adS (dS r) e c o x j = 10000
    rw [hj j a (by omega)]; exact w5 j a b
  · have a2 : nf (dP r) ≤ f := a
    show adS (dS r) e c o x (304 + f) = 0 ∧ dB r f = 0
    rw [hj (304 + f) (by omega) (by omega)]; exact w6 f a b
/-! levels in one word -/
theorem or_in {w y c : Int} (h1 : mAnd w c = w) (h2 : mAnd y c = y) : mAnd (mOr w y) c = mOr w y := by
  have e : mAnd (mOr w y) c = mOr (mAnd w c) (mAnd y c) := by
    unfold mAnd mOr
    simp only [Int32.ofInt_toInt]
    congr 1
    apply b_ext
    intro i hi
    simp only [b_and, b_or]
    rw [Bool.and_or_distrib_right]
  rw [e, h1, h2]
theorem lvX_bd {x f v : Int} (hx : 0 ≤ x ∧ x < 4096) (hf : 0 ≤ f ∧ f < 4) (hv : 0 ≤ v ∧ v < 8) : 0 ≤ mOr x (mShl v (f * 3)) ∧ mOr x (mShl v (f * 3)) < 4096 := by
  have key : ∀ a : Fin 4, ∀ b : Fin 8, mAnd (mShl (b.val : Int) ((a.val : Int) * 3)) 4095 = mShl (b.val : Int) ((a.val : Int) * 3) := by decide +kernel
  have k1 := key ⟨f.toNat, by omega⟩ ⟨v.toNat, by omega⟩
  simp only [Int.toNat_of_nonneg hf.1, Int.toNat_of_nonneg hv.1] at k1
  have k2 : mAnd x 4095 = x := (mAnd_mask (x := x) 12 (by decide)).trans (Int.emod_eq_of_lt hx.1 hx.2)
  have k3 := or_in k2 k1
  have k4 : mAnd (mOr x (mShl v (f * 3))) 4095 = mOr x (mShl v (f * 3)) % 4096 := mAnd_mask (x := mOr x (mShl v (f * 3))) 12 (by decide)
  omega
theorem lvX_dg {x f v g : Int} (hx : 0 ≤ x ∧ x < 4096) (hf : 0 ≤ f ∧ f < 4) (hv : 0 ≤ v ∧ v < 8) (hg : 0 ≤ g ∧ g < 4) (h0 : dg x f = 0) : dg (mOr x (mShl v (f * 3))) g = if g = f then v else dg x g := by
  have hb := lvX_bd hx hf hv
  rw [← dg_shr hb.1 (by omega) hg.1 (by omega), sw_or (by omega) (by omega), dg_shr hx.1 (by omega) hg.1 (by omega)]
  have hd : 0 ≤ dg x g ∧ dg x g < 8 := dg_bd x g
  have hz : g = f → dg x g = 0 := fun z => by rw [z]; exact h0
  revert hd hz
  generalize dg x g = d
  intro hd hz
  have key : ∀ a c : Fin 4, ∀ b e : Fin 8, ((c.val : Int) = (a.val : Int) → (e.val : Int) = 0) → mOr (e.val : Int) (mAnd (mShr (mShl (b.val : Int) ((a.val : Int) * 3)) ((c.val : Int) * 3)) 7) = if (c.val : Int) = (a.val : Int) then (b.val : Int) else (e.val : Int) := by decide +kernel
  have k1 := key ⟨f.toNat, by omega⟩ ⟨g.toNat, by omega⟩ ⟨v.toNat, by omega⟩ ⟨d.toNat, by omega⟩
  simp only [Int.toNat_of_nonneg hf.1, Int.toNat_of_nonneg hv.1, Int.toNat_of_nonneg hg.1, Int.toNat_of_nonneg hd.1] at k1
  exact k1 hz
/-- so far f levels are in x -/
def LvX (p : Pn) (x f : Int) : Prop := (0 ≤ x ∧ x < 4096) ∧ (∀ g, 0 ≤ g → g < f → dg x g < lv p g) ∧ ∀ g, f ≤ g → g < 4 → dg x g = 0
theorem LvX.z (p : Pn) : LvX p 0 0 := ⟨by decide, fun g a b => by omega, fun g _ _ => by unfold dg; simp⟩
theorem LvX.s {p : Pn} (hp : WfP p) {x f v : Int} (X : LvX p x f) (hf : 0 ≤ f ∧ f < nf p) (hv : 0 ≤ v ∧ v ≤ lv p f - 1) : LvX p (mOr x (mShl v (f * 3))) (f + 1) := by
  have hn := hp.1.1
  have hl := hp.2 f hf.1 hf.2
  have h0 := X.2.2 f (Int.le_refl _) (by omega)
  refine ⟨lvX_bd X.1 (by omega) (by omega), fun g a b => ?_, fun g a b => ?_⟩
  · rw [lvX_dg X.1 (by omega) (by omega) (by omega) h0]
    by_cases z : g = f
    · rw [if_pos z, z]; omega
    · rw [if_neg z]; exact X.2.1 g a (by omega)
  · rw [lvX_dg X.1 (by omega) (by omega) (by omega) h0, if_neg (by omega)]
    exact X.2.2 g (by omega) b
theorem LvX.v {p : Pn} (hp : WfP p) {x : Int} (X : LvX p x (nf p)) : vld p x := by
  refine ⟨X.1.1, fun f a b => ?_, by have := X.1; omega⟩
  unfold okd
  exact ⟨fun z => X.2.1 f a z, fun z => X.2.2 f z b⟩
end PWF
