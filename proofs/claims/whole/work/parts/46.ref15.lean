/-! the reference: kinds, chance, classes -/
theorem mAnd_31 (x : Int) : mAnd x 2147483647 = x % 2147483648 := by
  unfold mAnd
  rw [show (2147483647 : Int) = ((2 ^ 31 - 1 : Nat) : Int) from rfl, Int32.ofInt_eq_ofNat, show Int32.ofNat (2 ^ 31 - 1) = nI (2 ^ 31 - 1) from rfl, pk_and (Int32.ofInt x) 31 (by rw [pk_tn (by decide)])]
  have h3 : (Int32.ofInt x).toBitVec.toNat = (x % 4294967296).toNat := by
    rw [Int32.toBitVec_ofInt, BitVec.toNat_ofInt]
    rfl
  have hm : (Int32.ofInt x).toBitVec.toNat % 2 ^ 31 < 2 ^ 31 := Nat.mod_lt _ (by decide)
  rw [nI_toInt (by omega), h3]
  omega
theorem rs_comm {h : mH} {r r' : Nat} {i i' : Int} {f g : Int → Int} (e : r ≠ r') : rs (rs h r i f) r' i' g = rs (rs h r' i' g) r i f := by
  funext q j
  unfold rs
  by_cases c : q = r ∧ j = i
  · rw [if_pos c, if_pos c, if_neg (fun z => e (c.1.symm.trans z.1))]
  · rw [if_neg c, if_neg c]
section REF15
variable {p : Pn} {s : Int → Int} {h : mH}
/-- a kind's number behind f factors -/
def md (p : Pn) (x f : Int) : Int := fl (fun g y => y / lv p g) x f
def meG (p : Pn) (s : Int → Int) (x r : Int) (f : Int) (a : Bool) : Bool := a && decide (md p x f % lv p f = s (7 * r + 3 + f))
/-- whether risk r is of kind x -/
def meR (p : Pn) (s : Int → Int) (x r : Int) : Bool := fl (meG p s x r) true (nf p)
def met (p : Pn) (s : Int → Int) (x : Int) : Bool := decide (¬ ls (meR p s x) (s 310) = -2)
theorem md_bd (hp : WfP p) {x : Int} (hx : 0 ≤ x) (f : Int) (h0 : 0 ≤ f) (h1 : f ≤ nf p) : 0 ≤ md p x f ∧ md p x f ≤ x := by
  refine fl_inv (fun y : Int => 0 ≤ y ∧ y ≤ x) f ⟨hx, Int.le_refl _⟩ (fun g y a b hy => ?_) f h0 (Int.le_refl _)
  have hl := hp.2 g a (by omega)
  refine ⟨Int.ediv_nonneg hy.1 (by omega), ?_⟩
  have := Int.ediv_le_self (lv p g) hy.1
  omega
theorem md_s (p : Pn) (x : Int) {f : Int} (h0 : 0 ≤ f) : md p x (f + 1) = md p x f / lv p f := fl_s _ _ h0
theorem c7_isMet (R : Rf h p s) {K : Int → mH → Prop} {x1 : Int} (hx : 0 ≤ x1 ∧ x1 ≤ 1296) (kt : met p s x1 = true → K 1 h) (kf : met p s x1 = false → K 0 h) : OkI M7_isMet [mR 30 0, mI x1] h K := by
  have hp := R.2.2.1
  have hs := R.2.2.2
  have hm := R.m40
  have hn := R.n4
  refine s7_isMet (upI (P := fun r => (∀ j, 0 ≤ j → j < r → meR p s x1 j = false) → A7_isMet_2 K x1 r h) (n := s 310) (fun hj => ?_) (fun r h5 h6 ih hj => ?_) 0 (by omega) (by omega) (fun j a b => by omega))
  · refine s7_isMet_2 (c7_many R ⟨by omega, fun _ => kf ?_, fun z => absurd (Int.le_refl _) z⟩)
    exact decide_eq_false (fun z => z (ls_no hj))
  · refine s7_isMet_2 (c7_many R ⟨by omega, fun z => by omega, fun _ => ?_⟩)
    refine upI (P := fun f => A7_isMet_18 K x1 r (md p x1 f) (if fl (meG p s x1 r) true f then 1 else 0) f h) (n := nf p) ?_ (fun f h7 h8 jh => ?_) 0 (by omega) (by omega)
    · refine s7_isMet_18 (c7_factors R ⟨by omega, fun _ => ⟨by split <;> decide, fun z => ?_, fun z => ?_⟩, fun z => absurd (Int.le_refl _) z⟩)
      · refine ih (fun j a b => ?_)
        by_cases d : j = r
        · rw [d]
          show fl (meG p s x1 r) true (nf p) = false
          cases hc : fl (meG p s x1 r) true (nf p)
          · rfl
          · rw [hc] at z; exact absurd z (by decide)
        · exact hj j a (by omega)
      · have hc : meR p s x1 r = true := by
          show fl (meG p s x1 r) true (nf p) = true
          cases hc : fl (meG p s x1 r) true (nf p)
          · rw [hc] at z; exact absurd rfl z
          · rfl
        refine kt (decide_eq_true ?_)
        rw [ls_yes h5 h6 hc hj]
        omega
    · rw [md_s _ _ h7, fl_s _ _ h7] at jh
      have hd := md_bd hp hx.1 f h7 (by omega)
      have hl := R.pf h7 h8
      have hr := (hs.2.1 r h5 h6).2.2.2 f h7 (by omega)
      have hr2 := hr.2.1 h8
      have e1 : (md p x1 f).tdiv (lv p f) = md p x1 f / lv p f := tdivb hd.1
      have e2 : (md p x1 f).tmod (lv p f) = md p x1 f % lv p f := Int.tmod_eq_emod_of_nonneg hd.1
      have hmod := Int.emod_nonneg (md p x1 f) (show lv p f ≠ 0 by omega)
      have hmod2 := Int.emod_lt_of_pos (md p x1 f) (show 0 < lv p f by omega)
      refine s7_isMet_18 (c7_factors R ⟨by omega, fun z => by omega, fun _ => ?_⟩)
      rw [R.e35 h7 h8, R.es, e1, e2]
      revert jh
      cases hc : fl (meG p s x1 r) true f
      · intro jh
        refine ⟨by decide, fun _ => ⟨by omega, by omega, jh⟩, fun z => absurd rfl z⟩
      · intro jh
        refine ⟨by decide, fun z => absurd z (by decide), fun _ => ⟨by omega, by omega, by omega, by omega, fun z => ⟨by omega, by omega, ?_⟩, fun z => ⟨by omega, by omega, ?_⟩⟩⟩
        · rw [show meG p s x1 r f true = false from by unfold meG; rw [decide_eq_false z]; rfl] at jh
          exact jh
        · rw [show meG p s x1 r f true = true from by unfold meG; rw [decide_eq_true z]; rfl] at jh
          exact jh
/-- how many kinds there are -/
def kn (p : Pn) : Int := fl (fun f y => y * lv p f) 1 (nf p)
theorem knN_bd (hp : WfP p) : ∀ n : Nat, (n : Int) ≤ nf p → 1 ≤ fl (fun f y => y * lv p f) 1 (n : Int) ∧ fl (fun f y => y * lv p f) 1 (n : Int) ≤ 6 ^ n
  | 0, _ => by simp [fl_0]
  | n + 1, hn => by
    have ih := knN_bd hp n (by omega)
    have hl := hp.2 n (by omega) (by omega)
    rw [show ((n + 1 : Nat) : Int) = (n : Int) + 1 by omega, fl_s _ _ (by omega), Int.pow_succ]
    have h1 := mulb (x := fl (fun f y => y * lv p f) 1 (n : Int)) (y := lv p n) (A := 6 ^ n) (B := 6) (by omega) (by omega)
    refine ⟨?_, h1.2⟩
    have h2 := Int.mul_le_mul (a := 1) (b := 1) (c := fl (fun f y => y * lv p f) 1 (n : Int)) (d := lv p n) ih.1 hl.1.1 (by decide) (by omega)
    omega
theorem kn_bd (hp : WfP p) : 1 ≤ kn p ∧ kn p ≤ 1296 := by
  have hn := hp.1.1
  have h1 := knN_bd hp (nf p).toNat (by omega)
  rw [Int.toNat_of_nonneg hn.1] at h1
  have h2 : ∀ k, k ≤ 4 → (6 : Int) ^ k ≤ 1296 := by decide
  have h3 := h2 (nf p).toNat (by omega)
  unfold kn
  omega
def knF (p : Pn) (s : Int → Int) : Int := sm (fun x => if met p s x then 0 else 1) (kn p)
theorem c7_kinds (R : Rf h p s) {K : Int → mH → Prop} {x1 : Int} (hx : 0 ≤ x1 ∧ x1 ≤ 1) (k : K (if x1 = 0 then kn p else knF p s) h) : A7_kinds_20 K x1 1 0 h := by
  have hp := R.2.2.1
  have hn := R.n4
  have hk := kn_bd hp
  refine upI (P := fun f => A7_kinds_20 K x1 (fl (fun f y => y * lv p f) 1 f) f h) (n := nf p) ?_ (fun f h5 h6 ih => ?_) 0 (by omega) (by omega)
  · refine s7_kinds_20 (c7_factors R ⟨by omega, fun _ => ⟨by omega, fun z => ?_, fun z => ?_⟩, fun z => absurd (Int.le_refl _) z⟩)
    · rw [if_neg z] at k
      show A7_kinds_54 K x1 (kn p) 0 0 h
      refine upI (P := fun x => A7_kinds_54 K x1 (kn p) (sm (fun x => if met p s x then 0 else 1) x) x h) (n := kn p) ?_ (fun x h7 h8 jh => ?_) 0 (by omega) (by omega)
      · exact s7_kinds_54 ⟨by omega, fun _ => k, fun z => absurd (Int.le_refl _) z⟩
      · rw [sm_s _ h7] at jh
        refine s7_kinds_54 ⟨by omega, fun z => by omega, fun _ => c7_isMet R (by omega) (fun z => ⟨by decide, fun w => absurd w (by decide), fun _ => ?_⟩) (fun z => ⟨by decide, fun _ => ?_, fun w => absurd rfl w⟩)⟩
        · rw [z] at jh; exact jh
        · rw [z] at jh; exact jh
    · rw [if_pos z] at k
      exact k
  · rw [fl_s _ _ h5] at ih
    refine s7_kinds_20 (c7_factors R ⟨by omega, fun z => by omega, fun _ => ⟨by omega, ?_⟩⟩)
    rw [R.e35 h5 h6]
    exact ih
/-- claims drawn by chance -/
def nx (l : Int) : Int := (l * 1103515245 + 12345) % 2147483648
def drS (s : Int → Int) (m : Int) : Int → Int × (Int → Int) → Int × (Int → Int) := fun _ a => (nx (nx a.1), up a.2 (7 * ((nx a.1 / 65536) % s 310) + 1) ((nx (nx a.1) / 65536) % (m + 1)))
def drw (s : Int → Int) (sd n m : Int) : Int → Int := (fl (drS s m) (sd, s) n).2
theorem nx_bd (l : Int) : 0 ≤ nx l ∧ nx l < 2147483648 := by unfold nx; omega
def DrI (p : Pn) (s t : Int → Int) : Prop := WfS p t ∧ t 310 = s 310
theorem drI_up (hp : WfP p) {t : Int → Int} (hd : DrI p s t) {r v : Int} (h0 : 0 ≤ r) (h1 : r < s 310) (hv : 0 ≤ v ∧ v ≤ 99999) : DrI p s (up t (7 * r + 1) v) := by
  have hm := hd.1.1.1
  refine ⟨hd.1.claim hp h0 (by rw [hd.2]; exact h1) hv, ?_⟩
  rw [up_ne (by rw [hd.2] at hm; omega)]
  exact hd.2
theorem dr_I (hp : WfP p) (hs : WfS p s) (sd m : Int) (hpos : 0 < s 310) (hm : 0 ≤ m ∧ m ≤ 99999) (n : Int) (hn : 0 ≤ n) : DrI p s (fl (drS s m) (sd, s) n).2 := by
  refine fl_inv (fun a : Int × (Int → Int) => DrI p s a.2) n ⟨hs, rfl⟩ (fun i b _ _ hb => ?_) n hn (Int.le_refl _)
  have h1 := nx_bd (nx b.1)
  have h2 := Int.emod_nonneg (nx b.1 / 65536) (show s 310 ≠ 0 by omega)
  have h3 := Int.emod_lt_of_pos (nx b.1 / 65536) hpos
  have h4 := Int.emod_nonneg (nx (nx b.1) / 65536) (show m + 1 ≠ 0 by omega)
  have h5 := Int.emod_lt_of_pos (nx (nx b.1) / 65536) (show 0 < m + 1 by omega)
  exact drI_up hp hb h2 h3 (by omega)
theorem drw_wf (hp : WfP p) (hs : WfS p s) (sd m : Int) (hpos : 0 < s 310) (hm : 0 ≤ m ∧ m ≤ 99999) {n : Int} (hn : 0 ≤ n) : WfS p (drw s sd n m) := (dr_I hp hs sd m hpos hm n hn).1
/-- a draw -/
theorem c7_draw {K : Int → mH → Prop} {x1 l : Int} {g : Int → Int} (e : h 30 0 29 = l) (hx : 0 < x1 ∧ x1 ≤ 100000) (k : K ((nx l / 65536) % x1) (rs h 30 0 (up (h 30 0) 29 (nx l)))) : OkI M7_draw [mR 30 0, mI x1] h K := by
  refine s7_draw ?_
  rintro _ rfl
  have hb := nx_bd l
  rw [e, mAnd_31, mSet_rs, rs_same, up_same]
  show (mInR (mShr (nx l) 16) ∧ mInR x1 ∧ x1 ≠ 0) ∧ K ((mShr (nx l) 16).tmod x1) (rs h 30 0 (up (h 30 0) 29 (nx l)))
  have e2 : mShr (nx l) 16 = nx l / 65536 := mShr_div hb.1 hb.2 (by decide) (by decide)
  rw [e2, Int.tmod_eq_emod_of_nonneg (show 0 ≤ nx l / 65536 by omega)]
  exact ⟨by omega, k⟩
def chV (p : Pn) (s : Int → Int) (sd n m kk w : Int) : Int := if w = 0 then mis p (rn p (-1) kk (drw s sd n m)) else if w = 1 then sm (pr p (rn p (-1) kk (drw s sd n m))) (rn p (-1) kk (drw s sd n m) 310) else unb p (rn p (-1) kk (drw s sd n m))
theorem c7_chance (R : Rf h p s) {K : Int → mH → Prop} {x1 x2 x3 x4 x5 sd : Int} {b : Int → Int} (hsd : b 29 = sd) (h2 : 1 ≤ x2 ∧ x2 ≤ 60) (h3 : 0 ≤ x3 ∧ x3 ≤ 99999) (h4 : 0 ≤ x4 ∧ x4 ≤ 20) (h5 : 0 ≤ x5 ∧ x5 ≤ 2) (hpos : 0 < s 310) (k : ∀ l, K (chV p s sd x2 x3 x4 x5) (rs (rs h 42 0 s) 30 0 (up b 29 l))) : A7_chance_91 K x1 x2 x3 x4 x5 0 (rs (rs h 42 0 s) 30 0 b) := by
  have hp := R.2.2.1
  have hs := R.2.2.2
  have hm := R.m40
  have e41 : ∀ g : Int → Int, rs (rs h 42 0 s) 30 0 g 41 0 = s := fun g => by rw [rs_r (by decide), rs_r (by decide)]; exact R.es
  have key := upI (P := fun i => A7_chance_91 K x1 x2 x3 x4 x5 i (rs (rs (rs h 42 0 s) 30 0 (up b 29 (fl (drS s x3) (sd, s) i).1)) 41 0 (fl (drS s x3) (sd, s) i).2)) (n := x2) ?_ (fun i h7 h8 ih => ?_) 0 (by omega) (by omega)
  · have e1 : up b 29 sd = b := by rw [← hsd]; exact up_self b 29
    have e2 : rs (rs (rs h 42 0 s) 30 0 b) 41 0 s = rs (rs h 42 0 s) 30 0 b := by
      have := rs_self (rs (rs h 42 0 s) 30 0 b) 41 0
      rwa [e41] at this
    rw [fl_0] at key
    dsimp only at key
    rw [e1, e2] at key
    exact key
  · generalize hl : (fl (drS s x3) (sd, s) x2).1 = l
    have hw := drw_wf hp hs sd x3 hpos h3 (n := x2) (by omega)
    have Q0 : Rf (rs (rs h 42 0 s) 30 0 (up b 29 l)) p s := R.fr (fun r hr => by rw [rs_r (by omega), rs_r (by omega)])
    have hw2 := rn_wf hp hw (-1) x4
    have Q2 : Rf (rs (rs (rs h 42 0 s) 30 0 (up b 29 l)) 41 0 (rn p (-1) x4 (drw s sd x2 x3))) p (rn p (-1) x4 (drw s sd x2 x3)) := Q0.row hw2
    have bk : rs (rs (rs (rs h 42 0 s) 30 0 (up b 29 l)) 41 0 (rn p (-1) x4 (drw s sd x2 x3))) 41 0 s = rs (rs h 42 0 s) 30 0 (up b 29 l) := by
      have := rs_self (rs (rs h 42 0 s) 30 0 (up b 29 l)) 41 0
      rw [e41] at this
      rw [rs_rs, this]
    have e42 : rs (rs (rs h 42 0 s) 30 0 (up b 29 l)) 41 0 (rn p (-1) x4 (drw s sd x2 x3)) 42 0 = s := by rw [rs_r (by decide), rs_r (by decide), rs_same]
    have hu := unb_bd hp (rn p (-1) x4 (drw s sd x2 x3))
    have kk := k l
    unfold chV at kk
    refine s7_chance_91 ⟨by omega, fun _ => c7_rounds (Q0.row hw) (by omega) (by decide) ?_, fun z => absurd (Int.le_refl _) z⟩
    rw [rs_rs]
    refine ⟨by omega, fun z0 => ⟨by omega, fun z1 => c7_unbalancedNow Q2 ⟨by omega, c7_comesBack e42 ?_⟩, fun z1 => c7_paid Q2 (c7_comesBack e42 ?_)⟩, fun z0 => c7_misfit Q2 (c7_comesBack e42 ?_)⟩
    · rw [if_neg z0, if_neg z1] at kk; rw [bk]; exact kk
    · rw [if_neg z0, if_pos z1] at kk; rw [bk]; exact kk
    · rw [if_pos z0] at kk; rw [bk]; exact kk
  · have hI := dr_I hp hs sd x3 hpos h3 i h7
    rw [fl_s _ _ h7] at ih
    revert ih hI
    generalize fl (drS s x3) (sd, s) i = a
    intro ih hI
    have Q0 : Rf (rs (rs h 42 0 s) 30 0 (up b 29 a.1)) p s := R.fr (fun r hr => by rw [rs_r (by omega), rs_r (by omega)])
    have Q1 : Rf (rs (rs (rs h 42 0 s) 30 0 (up b 29 a.1)) 41 0 a.2) p a.2 := Q0.row hI.1
    have e30 : rs (rs (rs h 42 0 s) 30 0 (up b 29 a.1)) 41 0 a.2 30 0 = up b 29 a.1 := by rw [rs_r (by decide), rs_same]
    have h10 := Int.emod_nonneg (nx a.1 / 65536) (show s 310 ≠ 0 by omega)
    have h11 := Int.emod_lt_of_pos (nx a.1 / 65536) hpos
    refine s7_chance_91 ⟨by omega, fun z => by omega, fun _ => c7_many Q1 ?_⟩
    rw [hI.2]
    refine c7_draw (l := a.1) (g := a.2) (by rw [e30, up_same]) (by omega) ?_
    rw [e30, up_up]
    refine c7_draw (l := nx a.1) (g := a.2) (by rw [rs_same, up_same]) (by omega) ?_
    rw [rs_same, up_up, rs_rs]
    refine ⟨by omega, ?_⟩
    rintro _ rfl
    rw [mSet_rs, rs_r (by decide), rs_same, rs_comm (by decide), rs_rs, rs_comm (by decide), rs_rs]
    exact ih
/-- classes of all factors: all of them, or those with no risk -/
def ccL (s : Int → Int) (w f l : Int) : Int := if fs s f l = l ∧ (w = 0 ∨ csR s f l = 0) then 1 else 0
def ccF (p : Pn) (s : Int → Int) (w f : Int) : Int := sm (ccL s w f) (lv p f)
def cc (p : Pn) (s : Int → Int) (w : Int) : Int := sm (ccF p s w) (nf p)
theorem c7_classes (R : Rf h p s) {K : Int → mH → Prop} {x1 : Int} (hx : x1 = 0 ∨ x1 = 1) (k : K (cc p s x1) h) : OkI M7_classes [mR 30 0, mI x1] h K := by
  have h4 := R.n4
  refine s7_classes (upI (P := fun f => A7_classes_4 K x1 (sm (ccF p s x1) f) f h) (n := nf p) ?_ (fun f h5 h6 ih => ?_) 0 (by omega) (by omega))
  · exact s7_classes_4 (c7_factors R ⟨by omega, fun _ => k, fun z => absurd (Int.le_refl _) z⟩)
  · have hb := R.pf h5 h6
    rw [sm_s _ h5] at ih
    refine s7_classes_4 (c7_factors R ⟨by omega, fun z => by omega, fun _ => ?_⟩)
    have key := upI (P := fun l => A7_classes_15 K x1 (sm (ccF p s x1) f + sm (ccL s x1 f) l) f l h) (n := lv p f) ?_ (fun l h7 h8 jh => ?_) 0 (by omega) (by omega)
    · rw [sm_0, Int.add_zero] at key; exact key
    · refine s7_classes_15 ⟨by omega, ?_⟩
      rw [R.e35 h5 h6]
      exact ⟨by omega, fun _ => ih, fun z => absurd (Int.le_refl _) z⟩
    · rw [sm_s _ h7, ← Int.add_assoc] at jh
      have hf := fs_le (s := s) (f := f) h7
      have hR := csR_bd R.2.2.2 f l
      refine s7_classes_15 ⟨by omega, ?_⟩
      rw [R.e35 h5 h6]
      refine ⟨by omega, fun z => by omega, fun _ => c7_firstOf R.es (by omega) (by omega) ⟨by omega, fun z => ?_, fun z => ⟨by omega, fun z2 => ?_, fun z2 => c7_risksOf R h5 h6 h7 h8 ⟨by omega, fun z3 => ?_, fun z3 => ?_⟩⟩⟩⟩
      · rw [show ccL s x1 f l = 0 from if_neg (fun w => z w.1)] at jh; exact jh
      · rw [show ccL s x1 f l = 1 from if_pos ⟨z, Or.inl z2⟩] at jh; exact jh
      · rw [show ccL s x1 f l = 0 from if_neg (fun w => w.2.elim z2 z3)] at jh; exact jh
      · rw [show ccL s x1 f l = 1 from if_pos ⟨z, Or.inr z3⟩] at jh; exact jh
end REF15
