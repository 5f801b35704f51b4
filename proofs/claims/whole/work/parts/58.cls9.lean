/-! the class: capping -/
/-- what a question may touch: the fits' rows, the capping, the trial book -/
def FrQ (h h2 : mH) : Prop := ∀ r j, ¬ (13 ≤ r ∧ r ≤ 19) → ¬ (1 ≤ r ∧ r ≤ 6 ∧ j = 1) → h2 r j = h r j
theorem FrQ.rf (h : mH) : FrQ h h := fun _ _ _ _ => rfl
theorem FrQ.tr {h h2 h3 : mH} (a : FrQ h h2) (c : FrQ h2 h3) : FrQ h h3 := fun r j z w => (c r j z w).trans (a r j z w)
theorem FrF.q {b : Int} {h h2 : mH} (F : FrF b h h2) : FrQ h h2 := fun r j z _ => F r j (fun w => z ⟨w.1, by omega⟩)
theorem FrY.q {h h2 : mH} (F : FrY 1 h h2) : FrQ h h2 := fun r j z w => F r j (fun v => v.1.elim (fun x => z ⟨x.1, by omega⟩) (fun x => w ⟨x.1, x.2, v.2⟩))
theorem FrB.q {h h2 : mH} (F : FrB 1 h h2) : FrQ h h2 := F.y.q
theorem frQ_rs {h : mH} {r : Nat} {i : Int} {f : Int → Int} (hr : 13 ≤ r ∧ r ≤ 19) : FrQ h (rs h r i f) := by
  intro q j z _
  unfold rs
  rw [if_neg (fun w => z (by omega))]
def Cd (h : mH) (p : Pn) (s : Int → Int) : Prop := (h 18 0 3 = ob p s ∧ h 18 0 4 = byN p s) ∧ ∀ r, 0 ≤ r → r < s 310 → h 19 0 r = cpd p s (s 309) r (byN p s)
section CLS9
variable {h h2 : mH} {p : Pn} {s nm : Int → Int}
theorem FrQ.pl (F : FrQ h h2) {q : Int} (P : Pl h q p nm) : Pl h2 q p nm := P.fr (fun r a d => F r q (by omega) (by omega))
theorem FrQ.bk (F : FrQ h h2) {c : Int} (hc : c ≠ 1) (B : Bk h c p s) : Bk h2 c p s := B.fr (fun r a d => F r c (by omega) (fun w => hc w.2.2))
theorem k1_scaled (B : Bk h 0 p s) (D : Pd h 0 p s) {K : Int → mH → Prop} {r f : Int} (h0 : 0 ≤ r) (h1 : r < s 310) (hf : 0 ≤ f ∧ f ≤ 99999) (k : K (raw p s r f) h) : OkJ M1_scaled [mR 18 0, mI r, mI f] h K := by
  have hm := B.m40
  have hr := raw_bd B.wp B.wf h0 h1 hf
  refine s1_scaled ⟨by omega, by omega, ?_⟩
  rw [D r h0 h1]
  exact ⟨by omega, k⟩
theorem k1_leeway (B : Bk h 0 p s) {K : Int → mH → Prop} {r c : Int} (h0 : 0 ≤ r) (h1 : r < s 310) (hc : 0 ≤ c ∧ c ≤ 999) (k : K (lee s r c) h) : OkJ M1_leeway [mR 18 0, mI r, mI c] h K := by
  have hm := B.m40
  have hl := lee_bd B.wf h0 h1 hc
  have ho := (B.wf.2.1 r h0 h1).2.2.1
  refine s1_leeway ⟨by omega, ?_⟩
  rw [(B.rk h0 h1).2.2.1]
  exact ⟨by omega, by omega, by omega, k⟩
theorem k1_cappedBy (B : Bk h 0 p s) (D : Pd h 0 p s) {K : Int → mH → Prop} {r f c : Int} (h0 : 0 ≤ r) (h1 : r < s 310) (hf : 0 ≤ f ∧ f ≤ 99999) (hc : 0 ≤ c ∧ c ≤ 999) (k : K (cpd p s c r f) h) : OkJ M1_cappedBy [mR 18 0, mI r, mI f, mI c] h K := by
  have hm := B.m40
  have hl := lee_bd B.wf h0 h1 hc
  have ho := (B.wf.2.1 r h0 h1).2.2.1
  have hr := raw_bd B.wp B.wf h0 h1 hf
  refine s1_cappedBy ⟨by omega, ?_⟩
  rw [(B.rk h0 h1).2.2.1]
  refine ⟨by omega, k1_leeway B h0 h1 hc (k1_scaled B D h0 h1 hf ⟨by omega, ⟨by omega, by omega⟩, ?_⟩)⟩
  rw [wi_mm (by omega)]
  exact k
theorem k1_sumBy (B : Bk h 0 p s) (D : Pd h 0 p s) {K : Int → mH → Prop} {f c : Int} (hf : 0 ≤ f ∧ f ≤ 99999) (hc : 0 ≤ c ∧ c ≤ 999) (k : K (alc p s c f) h) : OkJ M1_sumBy [mR 18 0, mI f, mI c] h K := by
  have hm := B.m40
  refine s1_sumBy (upI (P := fun r => A1_sumBy_5 K f c (sm (fun r => cpd p s c r f) r) r h) (n := s 310) ?_ (fun r h5 h6 ih => ?_) 0 (by omega) (by omega))
  · refine s1_sumBy_5 ?_
    rw [B.m]
    exact ⟨by omega, fun _ => k, fun z => absurd (Int.le_refl _) z⟩
  · rw [sm_s _ h5] at ih
    refine s1_sumBy_5 ?_
    rw [B.m]
    exact ⟨by omega, fun z => by omega, fun _ => k1_cappedBy B D h5 h6 hf hc ih⟩
theorem k1_searchOff (B : Bk h 0 p s) (D : Pd h 0 p s) {K : Int → mH → Prop} (k : K (ob p s) h) : OkI M1_searchOffBalance [mR 18 0] h K := by
  have hp := B.wp
  have hs := B.wf
  have hw := whl_bd hs
  have hc := hs.1.2.2.1
  have ha := fun f => alc_bd (p := p) (f := f) hs hc
  have key : ∀ n : Nat, ∀ x3 x4 x5 : Int, x5 + n = 17 → 0 ≤ x5 → 0 ≤ x3 → x3 ≤ x4 → x4 ≤ 99999 → x4 - x3 < 2 ^ n → whl s ≤ alc p s (s 309) x4 → (x3 = 0 ∨ alc p s (s 309) (x3 - 1) < whl s) → A1_searchOffBalance_45 K (whl s) x3 x4 x5 h := by
    intro n
    induction n with
    | zero =>
      intro x3 x4 x5 e0 e1 e2 e3 e4 e5 e6 e7
      have e8 : x3 = x4 := by
        rw [show (2 : Int) ^ 0 = 1 from rfl] at e5
        omega
      rw [ob_is hp hs (v := x4) (by omega) e4 e6 (by rw [← e8]; exact e7)] at k
      exact s1_searchOffBalance_45 ⟨by omega, fun _ => k, fun _ => ⟨by omega, fun _ => k, fun z => by omega⟩⟩
    | succ n ih =>
      intro x3 x4 x5 e0 e1 e2 e3 e4 e5 e6 e7
      have hpow : (2 : Int) ^ (n + 1) = 2 * 2 ^ n := by rw [Int.pow_succ, Int.mul_comm]
      have em : mShr (x3 + x4) 1 = (x3 + x4) / 2 := by
        rw [mShr_div (by omega) (by omega) (by decide) (by decide)]
        rfl
      refine s1_searchOffBalance_45 ?_
      rw [em, B.1.2.2.1]
      refine ⟨by omega, fun z => by omega, fun _ => ⟨by omega, fun z => ?_, fun z => k1_sumBy B D (by omega) hc ?_⟩⟩
      · have e8 : x3 = x4 := by omega
        rw [ob_is hp hs (v := x4) (by omega) e4 e6 (by rw [← e8]; exact e7)] at k
        exact k
      · have h9 := ha ((x3 + x4) / 2)
        generalize (2 : Int) ^ n = t at *
        refine ⟨by omega, fun z2 => ih _ _ _ (by omega) (by omega) (by omega) (by omega) e4 (by omega) e6 (Or.inr ?_), fun z2 => ih _ _ _ (by omega) (by omega) e2 (by omega) (by omega) (by omega) (by omega) e7⟩
        rw [show (x3 + x4) / 2 + 1 - 1 = (x3 + x4) / 2 by omega]
        exact z2
  refine s1_searchOffBalance (k0_sumC B ?_)
  rw [B.1.2.2.1]
  have h9 := ha 99999
  refine k1_sumBy B D (by decide) hc ⟨by omega, fun z => key 17 0 99999 0 (by decide) (by decide) (by decide) (by decide) (by decide) (by decide) z (Or.inl rfl), fun z => ?_⟩
  rw [ob_no hp hs (by omega)] at k
  exact k
theorem k1_settle (P : Pl h 0 p nm) (B : Bk h 0 p s) {K : mH → Prop} (k : ∀ h2, Pd h2 0 p s → Cd h2 p s → FrQ h h2 → K h2) : OkV M1_settle [mR 18 0] h K := by
  have hm := B.m40
  have hc := B.wf.1.2.2.1
  have hby := byN_bd p s
  have hob : mInR (ob p s) := by
    have := ls_bd (P := obP p s) (n := 100000) (by decide)
    unfold ob
    omega
  refine s1_settle (k2_price P B (fun h1 D1 F1 => k1_searchOff (F1.bk B) D1 ?_))
  rintro _ rfl
  have loop : ∀ g : Int → Int, g 3 = ob p s → g 4 = byN p s → A1_settle_40 K 0 (rs h1 18 0 g) := by
    intro g g3 g4
    have F2 : FrQ h (rs h1 18 0 g) := F1.q.tr (frQ_rs (by decide))
    have B2 := F2.bk (c := 0) (by decide) B
    have D2 : Pd (rs h1 18 0 g) 0 p s := fun r a c => by rw [rs_r (by decide)]; exact D1 r a c
    generalize hH : rs h1 18 0 g = H at *
    have e3 : H 18 0 3 = ob p s := by rw [← hH, rs_same]; exact g3
    have e4 : H 18 0 4 = byN p s := by rw [← hH, rs_same]; exact g4
    have key := upI (P := fun r => A1_settle_40 K r (rs H 19 0 (fun j => if 0 ≤ j ∧ j < r then cpd p s (s 309) j (byN p s) else H 19 0 j))) (n := s 310) ?_ (fun r h5 h6 ih => ?_) 0 (by omega) (by omega)
    · have e : (fun j => if 0 ≤ j ∧ j < 0 then cpd p s (s 309) j (byN p s) else H 19 0 j) = H 19 0 := by
        funext j
        rw [if_neg (by omega)]
      rw [e, rs_self] at key
      exact key
    · refine s1_settle_40 ?_
      rw [rs_r (by decide), B2.m]
      refine ⟨by omega, fun _ => k _ (fun r a c => by rw [rs_r (by decide)]; exact D2 r a c) ⟨⟨by rw [rs_r (by decide)]; exact e3, by rw [rs_r (by decide)]; exact e4⟩, fun r a c => ?_⟩ (F2.tr (frQ_rs (by decide))), fun z => absurd (Int.le_refl _) z⟩
      rw [rs_same, if_pos ⟨a, c⟩]
    · have F3 : FrQ H (rs H 19 0 (fun j => if 0 ≤ j ∧ j < r then cpd p s (s 309) j (byN p s) else H 19 0 j)) := frQ_rs (by decide)
      have B3 := F3.bk (c := 0) (by decide) B2
      have e18 : rs H 19 0 (fun j => if 0 ≤ j ∧ j < r then cpd p s (s 309) j (byN p s) else H 19 0 j) 18 0 4 = byN p s := by rw [rs_r (by decide)]; exact e4
      refine s1_settle_40 ?_
      rw [B3.m, e18, B3.1.2.2.1]
      refine ⟨by omega, fun z => by omega, fun _ => k1_cappedBy B3 (fun r a c => by rw [rs_r (by decide)]; exact D2 r a c) h5 h6 hby hc ⟨by omega, ?_⟩⟩
      rintro _ rfl
      rw [mSet_rs, rs_same, rs_rs]
      have e : up (fun j => if 0 ≤ j ∧ j < r then cpd p s (s 309) j (byN p s) else H 19 0 j) r (cpd p s (s 309) r (byN p s)) = (fun j => if 0 ≤ j ∧ j < r + 1 then cpd p s (s 309) j (byN p s) else H 19 0 j) := by
        funext j
        unfold up
        by_cases c : j = r
        · rw [if_pos c, if_pos (by omega), c]
        · rw [if_neg c]
          dsimp only
          by_cases d : 0 ≤ j ∧ j < r
          · rw [if_pos d, if_pos (by omega)]
          · rw [if_neg d, if_neg (by omega)]
      rw [e]
      exact ih
  rw [mSet_rs, rs_same, up_same]
  refine ⟨hob, fun z => ?_, fun z => ?_⟩
  · rintro _ rfl
    rw [mSet_rs, rs_same, rs_rs]
    refine loop _ (by rw [up_ne (by decide), up_same]) ?_
    rw [up_same]
    unfold byN
    rw [if_neg z]
  · rintro _ rfl
    rw [mSet_rs, rs_same, rs_rs]
    refine loop _ (by rw [up_ne (by decide), up_same]) ?_
    rw [up_same]
    unfold byN
    rw [if_pos z]
theorem k1_sumCapped (B : Bk h 0 p s) (C : Cd h p s) {K : Int → mH → Prop} (k : K (alc p s (s 309) (byN p s)) h) : OkJ M1_sumCapped [mR 18 0] h K := by
  have hm := B.m40
  refine s1_sumCapped (upI (P := fun r => A1_sumCapped_4 K (sm (fun r => cpd p s (s 309) r (byN p s)) r) r h) (n := s 310) ?_ (fun r h5 h6 ih => ?_) 0 (by omega) (by omega))
  · refine s1_sumCapped_4 ?_
    rw [B.m]
    exact ⟨by omega, fun _ => k, fun z => absurd (Int.le_refl _) z⟩
  · rw [sm_s _ h5] at ih
    refine s1_sumCapped_4 ?_
    rw [B.m, C.2 r h5 h6]
    exact ⟨by omega, fun z => by omega, fun _ => ⟨by omega, ih⟩⟩
theorem k1_changeOf (B : Bk h 0 p s) (C : Cd h p s) {K : Int → mH → Prop} {r : Int} (h0 : 0 ≤ r) (h1 : r < s 310) (k : K (chg p s (byN p s) r) h) : OkJ M1_changeOf [mR 18 0, mI r] h K := by
  have hm := B.m40
  have ho := (B.wf.2.1 r h0 h1).2.2.1
  refine s1_changeOf ?_
  rw [C.2 r h0 h1, (B.rk h0 h1).2.2.1]
  exact ⟨by omega, by omega, by omega, k⟩
theorem k1_isChanged (B : Bk h 0 p s) (D : Pd h 0 p s) (C : Cd h p s) {K : Int → mH → Prop} {r w : Int} (h0 : 0 ≤ r) (h1 : r < s 310) (hw : 0 ≤ w ∧ w ≤ 3) (kt : chP p s w (byN p s) r = true → K 1 h) (kf : chP p s w (byN p s) r = false → K 0 h) : OkI M1_isChanged [mR 18 0, mI r, mI w] h K := by
  have hm := B.m40
  have hs := B.wf
  have hby := byN_bd p s
  have h8 := chg_bd (f := byN p s) hs h0 h1
  have ho := (hs.2.1 r h0 h1).2.2.1
  have hl := lee_bd hs h0 h1 hs.1.2.2.1
  have hr := raw_bd B.wp hs h0 h1 hby
  have hcp := cpd_bd (p := p) (f := byN p s) hs h0 h1 hs.1.2.2.1
  have ecp : cpd p s (s 309) r (byN p s) = wi (raw p s r (byN p s)) (s (7 * r + 2) - lee s r (s 309)) (s (7 * r + 2) + lee s r (s 309)) := rfl
  unfold wi at ecp
  unfold chP at kt kf
  refine s1_isChanged ?_
  rw [C.1.2]
  refine ⟨by omega, fun z => ?_, fun z => ?_, fun z => ?_, fun z => ?_⟩
  · rw [if_pos z] at kt kf
    exact k1_changeOf B C h0 h1 ⟨by omega, fun w => kf (decide_eq_false (by omega)), fun w => kt (decide_eq_true (by omega))⟩
  · rw [if_neg (by omega), if_pos z] at kt kf
    exact k1_changeOf B C h0 h1 ⟨by omega, fun w => kf (decide_eq_false (by omega)), fun w => kt (decide_eq_true (by omega))⟩
  · rw [if_neg (by omega), if_neg (by omega), if_pos z] at kt kf
    refine k1_scaled B D h0 h1 hby ⟨by omega, ?_⟩
    rw [C.2 r h0 h1]
    refine ⟨by omega, fun w => kf (decide_eq_false ?_), fun w => kt (decide_eq_true ?_)⟩
    · split at ecp <;> try split at ecp
      all_goals omega
    · split at ecp <;> try split at ecp
      all_goals omega
  · rw [if_neg (by omega), if_neg (by omega), if_neg (by omega)] at kt kf
    refine k1_scaled B D h0 h1 hby ⟨by omega, ?_⟩
    rw [C.2 r h0 h1]
    refine ⟨by omega, fun w => kf (decide_eq_false ?_), fun w => kt (decide_eq_true ?_)⟩
    · split at ecp <;> try split at ecp
      all_goals omega
    · split at ecp <;> try split at ecp
      all_goals omega
theorem k1_rankOf (B : Bk h 0 p s) (C : Cd h p s) {K : Int → mH → Prop} {r : Int} (h0 : 0 ≤ r) (h1 : r < s 310) (k : K (rk p s r) h) : OkI M1_rankOf [mR 18 0, mI r] h K := by
  have hm := B.m40
  have hs := B.wf
  refine s1_rankOf (upI (P := fun q => A1_rankOf_4 K r (sm (rkL p s r) q) q h) (n := s 310) ?_ (fun q h7 h8 jh => ?_) 0 (by omega) (by omega))
  · refine s1_rankOf_4 ?_
    rw [B.m]
    exact ⟨by omega, fun _ => k, fun z => absurd (Int.le_refl _) z⟩
  · rw [sm_s _ h7] at jh
    have h9 := chg_bd (f := byN p s) hs h0 h1
    have h10 := chg_bd (f := byN p s) hs h7 h8
    refine s1_rankOf_4 ?_
    rw [B.m]
    refine ⟨by omega, fun z => by omega, fun _ => k1_changeOf B C h7 h8 (k1_changeOf B C h0 h1 ⟨by omega, fun z => ?_, fun z => ⟨by omega, fun z2 => ?_, fun z2 => ⟨by omega, fun z3 => ?_, fun z3 => ?_⟩⟩⟩)⟩
    · rw [show rkL p s r q = 1 from if_pos (Or.inl z)] at jh; exact jh
    · rw [show rkL p s r q = 0 from if_neg (by omega), Int.add_zero] at jh; exact jh
    · rw [show rkL p s r q = 0 from if_neg (by omega), Int.add_zero] at jh; exact jh
    · rw [show rkL p s r q = 1 from if_pos (Or.inr (by omega))] at jh; exact jh
theorem k1_searchCap (P : Pl h 0 p nm) (B : Bk h 0 p s) {K : Int → mH → Prop} (k : ∀ h2, FrQ h h2 → K (lc p s) h2) : OkI M1_searchCap [mR 18 0] h K := by
  have hw := whl_bd B.wf
  refine s1_searchCap (k2_price P B (fun h1 D F => k0_sumC (F.bk B) ?_))
  have kk := k h1 F.q
  refine upI (P := fun c => (∀ j, 0 ≤ j → j < c → lcP p s j = false) → A1_searchCap_24 K (whl s) c h1) (n := 1000) (fun hj => ?_) (fun c h5 h6 ih hj => ?_) 0 (by omega) (by omega) (fun j a c => by omega)
  · rw [show lc p s = -2 from ls_no hj] at kk
    exact s1_searchCap_24 ⟨by decide, fun _ => kk, fun z => absurd (by decide) z⟩
  · have hb := alc_bd (p := p) (f := 99999) (c := c) B.wf (by omega)
    refine s1_searchCap_24 ⟨by omega, fun z => by omega, fun _ => k1_sumBy (F.bk B) D (by decide) (by omega) ⟨by omega, fun z => ih (fun j a d => ?_), fun z => ?_⟩⟩
    · by_cases e : j = c
      · rw [e]; exact decide_eq_false (by omega)
      · exact hj j a (by omega)
    · rw [show lc p s = c from ls_yes h5 h6 (decide_eq_true (by omega)) hj] at kk
      exact kk
end CLS9
