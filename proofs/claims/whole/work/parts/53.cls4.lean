/-! the class: premiums and margins of a fit -/
def Pd (h : mH) (b : Int) (p : Pn) (s : Int → Int) : Prop := ∀ r, 0 ≤ r → r < s 310 → h 13 b r = pr p s r
def Gd (h : mH) (b : Int) (p : Pn) (s : Int → Int) (f : Int) : Prop := ∀ l, 0 ≤ l → l < lv p f → fs s f l = l → h 14 b (8 * f + l) = csC s f l ∧ h 15 b (8 * f + l) = csP p s f l ∧ h 16 b (8 * f + l) = csE s f l ∧ h 17 b (8 * f + l) = csR s f l
/-- only the fit's own rows are touched -/
def FrF (b : Int) (h h2 : mH) : Prop := ∀ r j, ¬ (13 ≤ r ∧ r ≤ 17 ∧ j = b) → h2 r j = h r j
theorem FrF.rf (b : Int) (h : mH) : FrF b h h := fun _ _ _ => rfl
theorem FrF.tr {b : Int} {h h2 h3 : mH} (a : FrF b h h2) (c : FrF b h2 h3) : FrF b h h3 := fun r j z => (c r j z).trans (a r j z)
theorem frF_rs {b : Int} {h : mH} {r : Nat} {f : Int → Int} (hr : 13 ≤ r ∧ r ≤ 17) : FrF b h (rs h r b f) := by
  intro q j z
  unfold rs
  rw [if_neg (fun w => z ⟨by omega, by omega, w.2⟩)]
section CLS4
variable {h h2 : mH} {b : Int} {p : Pn} {s nm : Int → Int}
theorem FrF.bk (F : FrF b h h2) {c : Int} (B : Bk h c p s) : Bk h2 c p s := B.fr (fun r a d => F r c (by omega))
theorem FrF.pl (F : FrF b h h2) {q : Int} (P : Pl h q p nm) : Pl h2 q p nm := P.fr (fun r a d => F r q (by omega))
theorem k2_behind (B : Bk h b p s) {K : Int → mH → Prop} {e x n : Int} (he : 0 ≤ e ∧ e ≤ 99) (hn : 0 ≤ n ∧ n ≤ nf p) (hx : 0 ≤ x ∧ x < 2147483648) (hg : ∀ f, 0 ≤ f → f < nf p → dg x f < lv p f) (k : K (bh s e (dg x) n) h) : OkJ M2_behindFactors [mR 12 b, mI e, mI x, mI n] h K := by
  have hp := B.wp
  have hs := B.wf
  have h4 := hp.1.1
  have hbase := hs.1.2.1
  have hg2 : ∀ f, 0 ≤ f → f < nf p → 0 ≤ dg x f ∧ dg x f < lv p f := fun f a c => ⟨(dg_bd x f).1, hg f a c⟩
  have key := upI (P := fun f => A2_behindFactors_19 K b e x n (bh s e (dg x) f) (x / 8 ^ f.toNat) f h) (n := n) ?_ (fun f h5 h6 ih => ?_) 0 (by omega) (by omega)
  · refine s2_behindFactors ?_
    rw [B.1.2.1]
    refine ⟨by omega, by omega, ?_⟩
    rw [bh_0, show x / 8 ^ (0 : Int).toNat = x from by simp] at key
    exact key
  · exact s2_behindFactors_19 ⟨by omega, fun _ => k, fun z => absurd (Int.le_refl _) z⟩
  · have hr0 : 0 ≤ x / 8 ^ f.toNat := Int.ediv_nonneg hx.1 (Int.pow_nonneg (by decide))
    have hr1 : x / 8 ^ f.toNat ≤ x := Int.ediv_le_self _ hx.1
    have e1 : mAnd (x / 8 ^ f.toNat) 7 = dg x f := by
      rw [show (7 : Int) = 2 ^ 3 - 1 from rfl, mAnd_mask 3 (by decide)]
      rfl
    have e2 : mShr (x / 8 ^ f.toNat) 3 = x / 8 ^ (f + 1).toNat := by
      rw [mShr_div hr0 (by omega) (by decide) (by decide), show (f + 1).toNat = f.toNat + 1 by omega, Int.pow_succ, ← Int.ediv_ediv_of_nonneg (Int.pow_nonneg (by decide))]
      rfl
    have hd := hg2 f h5 (by omega)
    have hlv := (hp.2 f h5 (by omega)).1
    have e3 : mOr (mShl f 3) (dg x f) = 8 * f + dg x f := mSlot h5 (by omega) hd.1 (by omega)
    have hrel := rel_bd hp hs h5 (show f < nf p by omega) hd.1 hd.2
    have hbh := bh_bd hp hs he hg2 h5 (show f ≤ nf p by omega)
    have hm := mulb (x := bh s e (dg x) f) (y := s (280 + 6 * f + dg x f)) (A := 98999010000) (B := 99999) hbh (by omega)
    rw [bh_s h5] at ih
    refine s2_behindFactors_19 ?_
    rw [e1, e3, B.l h5 (by omega) hd.1 hd.2, e2]
    exact ⟨by omega, fun z => by omega, fun _ => ⟨by omega, fun z => by omega, fun _ => ⟨by omega, by omega, by omega, ih⟩⟩⟩
theorem k2_premiumFor (P : Pl h 0 p nm) (B : Bk h b p s) {K : Int → mH → Prop} {e x : Int} (he : 0 ≤ e ∧ e ≤ 99) (hx : 0 ≤ x ∧ x < 2147483648) (hg : ∀ f, 0 ≤ f → f < nf p → dg x f < lv p f) (k : K (prm s (nf p) e (dg x)) h) : OkJ M2_premiumFor [mR 12 b, mI e, mI x] h K := by
  have hp := B.wp
  have hs := B.wf
  have h4 := hp.1.1
  have hbh := bh_bd hp hs he (g := dg x) (fun f a c => ⟨(dg_bd x f).1, hg f a c⟩) (n := nf p) (by omega) (Int.le_refl _)
  have h12 := hs.1.2.2.2.2.1
  have h13 := hs.1.2.2.2.2.2
  have hm := mulb (x := bh s e (dg x) (nf p)) (y := s 313) (A := 98999010000) (B := 500) hbh (by omega)
  refine s2_premiumFor ?_
  rw [P.n]
  refine k2_behind B he (by omega) hx hg ?_
  rw [B.1.2.2.2.2.1, B.1.2.2.2.2.2]
  unfold prm at k
  refine ⟨by omega, fun z => ?_, fun z => ⟨by omega, by omega, ?_⟩⟩
  · rw [if_pos z] at k; exact k
  · rw [if_neg z] at k; exact k
theorem pr_dg (hp : WfP p) (hs : WfS p s) {r : Int} (h0 : 0 ≤ r) (h1 : r < s 310) : prm s (nf p) (s (7 * r + 0)) (dg (pkL s r)) = pr p s r := by
  have h4 := hp.1.1
  exact prm_lev (fun f a c => pkL_dg hp hs h0 h1 a (by omega))
theorem k2_pr (P : Pl h 0 p nm) (B : Bk h b p s) {K : Int → mH → Prop} {r : Int} (h0 : 0 ≤ r) (h1 : r < s 310) (k : K (pr p s r) h) : OkJ M2_premiumFor [mR 12 b, mI (h 2 b r), mI (h 5 b r)] h K := by
  have hp := B.wp
  have hs := B.wf
  have h4 := hp.1.1
  have hr := B.rk h0 h1
  have hb := pkL_bd hp hs h0 h1
  have he := (hs.2.1 r h0 h1).1
  rw [hr.1, hr.2.2.2]
  refine k2_premiumFor P B (by omega) (by omega) (fun f a c => ?_) (by rw [pr_dg hp hs h0 h1]; exact k)
  rw [pkL_dg hp hs h0 h1 a (by omega)]
  exact ((hs.2.1 r h0 h1).2.2.2 f a (by omega)).2.1 c
theorem k2_premiumOf (P : Pl h 0 p nm) (B : Bk h b p s) {K : Int → mH → Prop} {r : Int} (h0 : 0 ≤ r) (h1 : r < s 310) (k : K (pr p s r) h) : OkJ M2_premiumOf [mR 12 b, mI r] h K := by
  have hm := B.m40
  exact s2_premiumOf (k0_hasRisk B (by omega) (fun _ _ => ⟨by decide, fun w => absurd w (by decide), fun _ => ⟨by omega, by omega, k2_pr P B h0 h1 k⟩⟩) (fun z => absurd ⟨h0, h1⟩ z))
theorem k2_price (P : Pl h 0 p nm) (B : Bk h b p s) {K : mH → Prop} (k : ∀ h2, Pd h2 b p s → FrF b h h2 → K h2) : OkV M2_price [mR 12 b] h K := by
  have hm := B.m40
  have key := upI (P := fun r => A2_price_2 K b r (rs h 13 b (fun j => if 0 ≤ j ∧ j < r then pr p s j else h 13 b j))) (n := s 310) ?_ (fun r h5 h6 ih => ?_) 0 (by omega) (by omega)
  · have e : (fun j => if 0 ≤ j ∧ j < 0 then pr p s j else h 13 b j) = h 13 b := by
      funext j
      rw [if_neg (by omega)]
    rw [e, rs_self] at key
    exact s2_price key
  · refine s2_price_2 ?_
    rw [rs_r (by decide), B.m]
    refine ⟨by omega, fun _ => k _ (fun r a c => ?_) (frF_rs (by decide)), fun z => absurd (Int.le_refl _) z⟩
    rw [rs_same, if_pos ⟨a, c⟩]
  · have F := frF_rs (b := b) (h := h) (r := 13) (f := fun j => if 0 ≤ j ∧ j < r then pr p s j else h 13 b j) (by decide)
    refine s2_price_2 ?_
    have em : rs h 13 b (fun j => if 0 ≤ j ∧ j < r then pr p s j else h 13 b j) 1 b 0 = s 310 := by rw [rs_r (by decide), B.m]
    rw [em]
    refine ⟨by omega, fun z => by omega, fun _ => ⟨by omega, by omega, k2_pr (F.pl P) (F.bk B) h5 h6 ⟨by omega, ?_⟩⟩⟩
    rintro _ rfl
    rw [mSet_rs, rs_same, rs_rs]
    have e : up (fun j => if 0 ≤ j ∧ j < r then pr p s j else h 13 b j) r (pr p s r) = (fun j => if 0 ≤ j ∧ j < r + 1 then pr p s j else h 13 b j) := by
      funext j
      unfold up
      by_cases c : j = r
      · rw [if_pos c, if_pos (by omega), c]
      · rw [if_neg c]
        dsimp only
        by_cases d : 0 ≤ j ∧ j < r
        · rw [if_pos d, if_pos (by omega)]
        · rw [if_neg d, if_neg (by omega)]
    rw [e]
    exact ih
theorem k2_sumPaid (P : Pl h 0 p nm) (B : Bk h b p s) {K : Int → mH → Prop} (k : ∀ h2, Pd h2 b p s → FrF b h h2 → K (sm (pr p s) (s 310)) h2) : OkJ M2_sumPaid [mR 12 b] h K := by
  have hm := B.m40
  refine s2_sumPaid (k2_price P B (fun h2 D F => ?_))
  have B2 := F.bk B
  refine upI (P := fun r => A2_sumPaid_8 K b (sm (pr p s) r) r h2) (n := s 310) ?_ (fun r h5 h6 ih => ?_) 0 (by omega) (by omega)
  · refine s2_sumPaid_8 ?_
    rw [B2.m]
    exact ⟨by omega, fun _ => k h2 D F, fun z => absurd (Int.le_refl _) z⟩
  · rw [sm_s _ h5] at ih
    refine s2_sumPaid_8 ?_
    rw [B2.m, D r h5 h6]
    exact ⟨by omega, fun z => by omega, fun _ => ⟨by omega, ih⟩⟩
/-! gathering -/
def gwR (o : Int → Int) (f : Int) (st : Int → Int) : Int → Int := fun j => if 8 * f ≤ j ∧ j < 8 * f + 8 then st (j - 8 * f) else o j
theorem gwR_at {o st : Int → Int} {f l : Int} (h0 : 0 ≤ l) (h1 : l < 8) : gwR o f st (8 * f + l) = st l := by
  unfold gwR
  rw [if_pos (by omega), show 8 * f + l - 8 * f = l by omega]
theorem gwR_up {o st : Int → Int} {f l v : Int} (h0 : 0 ≤ l) (h1 : l < 8) : up (gwR o f st) (8 * f + l) v = gwR o f (up st l v) := by
  funext j
  unfold up gwR
  dsimp only
  by_cases c : j = 8 * f + l
  · rw [if_pos c, if_pos (by omega), if_pos (by omega)]
  · rw [if_neg c]
    by_cases d : 8 * f ≤ j ∧ j < 8 * f + 8
    · rw [if_pos d, if_pos d, if_neg (by omega)]
    · rw [if_neg d, if_neg d]
theorem gwR_congr {o st st2 : Int → Int} {f : Int} (e : ∀ l, 0 ≤ l → l < 8 → st l = st2 l) : gwR o f st = gwR o f st2 := by
  funext j
  unfold gwR
  by_cases d : 8 * f ≤ j ∧ j < 8 * f + 8
  · rw [if_pos d, if_pos d, e _ (by omega) (by omega)]
  · rw [if_neg d, if_neg d]
theorem gwR_self (o : Int → Int) (f : Int) : gwR o f (fun l => o (8 * f + l)) = o := by
  funext j
  unfold gwR
  dsimp only
  by_cases d : 8 * f ≤ j ∧ j < 8 * f + 8
  · rw [if_pos d, show 8 * f + (j - 8 * f) = j by omega]
  · rw [if_neg d]
/-- the four rows of sums of factor f -/
def hG (h : mH) (b f : Int) (a1 a2 a3 a4 : Int → Int) : mH := rs (rs (rs (rs h 14 b (gwR (h 14 b) f a1)) 15 b (gwR (h 15 b) f a2)) 16 b (gwR (h 16 b) f a3)) 17 b (gwR (h 17 b) f a4)
section HG
variable {f : Int} {a1 a2 a3 a4 : Int → Int}
theorem hG_fr : FrF b h (hG h b f a1 a2 a3 a4) := (((frF_rs (by decide)).tr (frF_rs (by decide))).tr (frF_rs (by decide))).tr (frF_rs (by decide))
theorem hG_14 : hG h b f a1 a2 a3 a4 14 b = gwR (h 14 b) f a1 := by unfold hG; rw [rs_r (by decide), rs_r (by decide), rs_r (by decide), rs_same]
theorem hG_15 : hG h b f a1 a2 a3 a4 15 b = gwR (h 15 b) f a2 := by unfold hG; rw [rs_r (by decide), rs_r (by decide), rs_same]
theorem hG_16 : hG h b f a1 a2 a3 a4 16 b = gwR (h 16 b) f a3 := by unfold hG; rw [rs_r (by decide), rs_same]
theorem hG_17 : hG h b f a1 a2 a3 a4 17 b = gwR (h 17 b) f a4 := by unfold hG; rw [rs_same]
theorem hG_no {q : Nat} {j : Int} (hq : q < 14 ∨ 17 < q) : hG h b f a1 a2 a3 a4 q j = h q j := by unfold hG; rw [rs_r (by omega), rs_r (by omega), rs_r (by omega), rs_r (by omega)]
theorem hG_s14 {l v : Int} (h0 : 0 ≤ l) (h1 : l < 8) : mSet (hG h b f a1 a2 a3 a4) 14 b (8 * f + l) v = hG h b f (up a1 l v) a2 a3 a4 := by
  rw [mSet_rs, hG_14, gwR_up h0 h1]
  unfold hG
  rw [rs_comm (r := 17) (by decide), rs_comm (r := 16) (by decide), rs_comm (r := 15) (by decide), rs_rs]
theorem hG_s15 {l v : Int} (h0 : 0 ≤ l) (h1 : l < 8) : mSet (hG h b f a1 a2 a3 a4) 15 b (8 * f + l) v = hG h b f a1 (up a2 l v) a3 a4 := by
  rw [mSet_rs, hG_15, gwR_up h0 h1]
  unfold hG
  rw [rs_comm (r := 17) (by decide), rs_comm (r := 16) (by decide), rs_rs]
theorem hG_s16 {l v : Int} (h0 : 0 ≤ l) (h1 : l < 8) : mSet (hG h b f a1 a2 a3 a4) 16 b (8 * f + l) v = hG h b f a1 a2 (up a3 l v) a4 := by
  rw [mSet_rs, hG_16, gwR_up h0 h1]
  unfold hG
  rw [rs_comm (r := 17) (by decide), rs_rs]
theorem hG_s17 {l v : Int} (h0 : 0 ≤ l) (h1 : l < 8) : mSet (hG h b f a1 a2 a3 a4) 17 b (8 * f + l) v = hG h b f a1 a2 a3 (up a4 l v) := by
  rw [mSet_rs, hG_17, gwR_up h0 h1]
  unfold hG
  rw [rs_rs]
theorem hG_of (h : mH) (b f : Int) : h = hG h b f (fun l => h 14 b (8 * f + l)) (fun l => h 15 b (8 * f + l)) (fun l => h 16 b (8 * f + l)) (fun l => h 17 b (8 * f + l)) := by
  unfold hG
  rw [gwR_self, gwR_self, gwR_self, gwR_self, rs_self]
  have e3 : rs h 15 b (h 15 b) = h := rs_self h 15 b
  rw [e3, rs_self, rs_self]
theorem hG_congr {c1 c2 c3 c4 : Int → Int} (e1 : ∀ l, 0 ≤ l → l < 8 → a1 l = c1 l) (e2 : ∀ l, 0 ≤ l → l < 8 → a2 l = c2 l) (e3 : ∀ l, 0 ≤ l → l < 8 → a3 l = c3 l) (e4 : ∀ l, 0 ≤ l → l < 8 → a4 l = c4 l) : hG h b f a1 a2 a3 a4 = hG h b f c1 c2 c3 c4 := by
  unfold hG
  rw [gwR_congr e1, gwR_congr e2, gwR_congr e3, gwR_congr e4]
end HG
def zr (a : Int → Int) (q : Int) : Int → Int := fun m => if 0 ≤ m ∧ m < q then 0 else a m
theorem zr_s {a : Int → Int} {q : Int} (h0 : 0 ≤ q) : up (zr a q) q 0 = zr a (q + 1) := by
  funext j
  unfold up zr
  by_cases c : j = q
  · rw [if_pos c, if_pos (by omega)]
  · rw [if_neg c]
    by_cases d : 0 ≤ j ∧ j < q
    · rw [if_pos d, if_pos (by omega)]
    · rw [if_neg d, if_neg (by omega)]
theorem zr_0 (a : Int → Int) : zr a 0 = a := by
  funext j
  unfold zr
  rw [if_neg (by omega)]
/-- sums of the risks of level l alone -/
def lsS (s : Int → Int) (f : Int) (w : Int → Int) (n : Int) : Int → Int := fun l => sm (fun r => if s (7 * r + 3 + f) = l then w r else 0) n
theorem lsS_s {f : Int} {w : Int → Int} {r : Int} (h0 : 0 ≤ r) : up (lsS s f w r) (s (7 * r + 3 + f)) (lsS s f w r (s (7 * r + 3 + f)) + w r) = lsS s f w (r + 1) := by
  funext j
  unfold up lsS
  rw [sm_s _ h0]
  by_cases c : j = s (7 * r + 3 + f)
  · rw [if_pos c, c, if_pos rfl]
  · rw [if_neg c, if_neg (fun z => c z.symm), Int.add_zero]
/-- sums of level l and those that are joined to it from above -/
def acD (s : Int → Int) (f : Int) (w : Int → Int) : Int → Int := fun l => sm (fun r => if l ≤ s (7 * r + 3 + f) ∧ fs s f (s (7 * r + 3 + f)) ≤ l then w r else 0) (s 310)
theorem fs_at {f l m : Int} (h0 : 0 ≤ l) (h1 : l < m) : fs s f m ≤ l ↔ (jb (s (304 + f)) l = true ∧ fs s f m ≤ l + 1) := by
  have hj := fs_joined (s := s) (f := f) m.toNat
  rw [Int.toNat_of_nonneg (by omega)] at hj
  constructor
  · intro z
    exact ⟨hj l z h1, by omega⟩
  · rintro ⟨z1, z2⟩
    by_cases c : fs s f m = l + 1
    · have h3 := fs_fs s f m
      rw [c, fs_s h0, if_pos z1] at h3
      have := fs_le (s := s) (f := f) h0
      omega
    · omega
theorem acD_s (hp : WfP p) (hs : WfS p s) {f l : Int} (w : Int → Int) (hf0 : 0 ≤ f) (hf : f < nf p) (h0 : 0 ≤ l) : acD s f w l = lsS s f w (s 310) l + (if jb (s (304 + f)) l then acD s f w (l + 1) else 0) := by
  have h4 := hp.1.1
  unfold acD lsS
  cases e : jb (s (304 + f)) l
  · rw [if_neg (by decide), Int.add_zero]
    refine sm_congr (fun r a c => ?_)
    have hr := ((hs.2.1 r a c).2.2.2 f hf0 (by omega)).1
    by_cases x : s (7 * r + 3 + f) = l
    · rw [if_pos x, if_pos ⟨by omega, by rw [x]; exact (fs_le h0).2⟩]
    · rw [if_neg x, if_neg]
      rintro ⟨y, z⟩
      have := (fs_at h0 (show l < s (7 * r + 3 + f) by omega)).mp z
      rw [e] at this
      cases this.1
  · rw [if_pos rfl, ← sm_add]
    refine sm_congr (fun r a c => ?_)
    have hr := ((hs.2.1 r a c).2.2.2 f hf0 (by omega)).1
    by_cases x : s (7 * r + 3 + f) = l
    · rw [if_pos x, if_pos ⟨by omega, by rw [x]; exact (fs_le h0).2⟩, if_neg (by omega), Int.add_zero]
    · rw [if_neg x, Int.zero_add]
      by_cases y : l < s (7 * r + 3 + f)
      · have h6 := fs_at (s := s) (f := f) h0 y
        by_cases z : fs s f (s (7 * r + 3 + f)) ≤ l + 1
        · rw [if_pos ⟨by omega, h6.mpr ⟨e, z⟩⟩, if_pos ⟨by omega, z⟩]
        · rw [if_neg (fun q => z (h6.mp q.2).2), if_neg (fun q => z q.2)]
      · rw [if_neg (fun q => y (by omega)), if_neg (fun q => y (by omega))]
theorem acD_top (hp : WfP p) (hs : WfS p s) {f l : Int} (w : Int → Int) (hf0 : 0 ≤ f) (hf : f < nf p) (h5 : 5 ≤ l) : acD s f w l = lsS s f w (s 310) l := by
  have h4 := hp.1.1
  unfold acD lsS
  refine sm_congr (fun r a c => ?_)
  have hr := (hs.2.1 r a c).2.2.2 f hf0 (by omega)
  have hl := (hp.2 f hf0 hf).1
  have hr2 := hr.2.1 hf
  by_cases x : s (7 * r + 3 + f) = l
  · rw [if_pos x, if_pos ⟨by omega, by rw [x]; exact (fs_le (by omega)).2⟩]
  · rw [if_neg x, if_neg (fun q => x (by omega))]
theorem acD_cs (hp : WfP p) (hs : WfS p s) {f l : Int} (w : Int → Int) (hf0 : 0 ≤ f) (hf : f < nf p) (h0 : 0 ≤ l) (hl : fs s f l = l) : acD s f w l = cs s f l w := by
  have h4 := hp.1.1
  unfold acD cs co
  refine sm_congr (fun r a c => ?_)
  have hr := ((hs.2.1 r a c).2.2.2 f hf0 (by omega)).1
  rw [hl]
  have hi := fs_iff h0 hl hr
  by_cases x : fs s f (s (7 * r + 3 + f)) = l
  · rw [if_pos x, if_pos ⟨(hi.mp x).1, by omega⟩]
  · rw [if_neg x, if_neg]
    rintro ⟨y, z⟩
    refine x (hi.mpr ⟨y, fun k d g => ?_⟩)
    have hj := fs_joined (s := s) (f := f) (s (7 * r + 3 + f)).toNat
    rw [Int.toNat_of_nonneg hr] at hj
    exact hj k (by omega) g
end CLS4
