/-! the class reads a line -/
section ADDX
variable {h : mH} {b : Int} {p : Pn} {s nm : Int → Int}
theorem k0_addRiskX (B : Bk h b p s) {K : mH → Prop} {e cl o x : Int} (h40 : s 310 < 40) (he : 1 ≤ e ∧ e ≤ 99) (hc : 0 ≤ cl ∧ cl ≤ 99999) (ho : 1 ≤ o ∧ o ≤ 99999) (hx : vld p x) (k : ∀ h2, Bk h2 b p (adS s e cl o x) → FrB b h h2 → h2 1 b 6 = h 1 b 6 → h2 6 b = h 6 b → K h2) : OkV M0_addRisk [mR 1 b, mI e, mI cl, mI o, mI x] h K := by
  have hp := B.wp
  have hs := B.wf
  have hm := B.m40
  have e310 : adS s e cl o x 310 = s 310 + 1 := by unfold adS; rw [if_pos rfl]
  have key := B.rows (adS_wf hp hs h40 he hc ho hx) (fun j a d => by unfold adS; rw [if_neg d, if_neg (by omega), if_neg (by omega), if_neg (by omega), if_neg (by omega)]) (g2 := up (h 2 b) (s 310) e) (g3 := up (h 3 b) (s 310) cl) (g4 := up (h 4 b) (s 310) o) (g5 := up (h 5 b) (s 310) x) (fun r a d => ?_)
  · refine s0_addRisk ?_
    rw [B.m]
    refine ⟨by omega, fun z => by omega, fun _ => ⟨by omega, ?_⟩⟩
    rintro _ rfl
    have e1 : mSet h 2 b (s 310) e = hR h b (s 310) (up (h 2 b) (s 310) e) (h 3 b) (h 4 b) (h 5 b) := by
      have e0 := hR_of h b
      rw [B.m] at e0
      conv => lhs; rw [e0]
      rw [hR_s2]
    rw [e1, hR_1, up_same]
    refine ⟨by omega, ?_⟩
    rintro _ rfl
    rw [hR_s3, hR_1, up_same]
    refine ⟨by omega, ?_⟩
    rintro _ rfl
    rw [hR_s4, hR_1, up_same]
    refine ⟨by omega, ?_⟩
    rintro _ rfl
    rw [hR_s5]
    rintro _ rfl
    rw [hR_1, up_same, hR_s1]
    rw [e310] at key
    exact k _ key hR_fr (by rw [hR_1, up_ne (by decide)]) (by rw [hR_6])
  · rw [e310] at d
    by_cases c : r = s 310
    · subst c
      rw [up_same, up_same, up_same, up_same]
      have a0 : adS s e cl o x (7 * s 310 + 0) = e := by unfold adS; rw [if_neg (by omega), if_pos rfl]
      have a1 : adS s e cl o x (7 * s 310 + 1) = cl := by unfold adS; rw [if_neg (by omega), if_neg (by omega), if_pos rfl]
      have a2 : adS s e cl o x (7 * s 310 + 2) = o := by unfold adS; rw [if_neg (by omega), if_neg (by omega), if_neg (by omega), if_pos rfl]
      have a3 : ∀ f, 0 ≤ f → f < 4 → adS s e cl o x (7 * s 310 + 3 + f) = dg x f := by
        intro f g i
        unfold adS
        rw [if_neg (by omega), if_neg (by omega), if_neg (by omega), if_neg (by omega), if_pos (by omega), show 7 * s 310 + 3 + f - (7 * s 310 + 3) = f by omega]
      refine ⟨a0.symm, a1.symm, a2.symm, ?_⟩
      unfold pkL
      rw [a3 0 (by decide) (by decide), a3 1 (by decide) (by decide), a3 2 (by decide) (by decide), a3 3 (by decide) (by decide)]
      have x0 := hx.1
      have x1 := hx.2.2
      show x = x / 1 % 8 + 8 * (x / 8 % 8) + 64 * (x / 64 % 8) + 512 * (x / 512 % 8)
      omega
    · rw [up_ne c, up_ne c, up_ne c, up_ne c]
      have h7 := B.rk (r := r) (by omega) (by omega)
      have ee : ∀ j, 0 ≤ j → j < 7 → adS s e cl o x (7 * r + j) = s (7 * r + j) := by
        intro j d g
        unfold adS
        rw [if_neg (by omega), if_neg (by omega), if_neg (by omega), if_neg (by omega), if_neg (by omega)]
      have e5 : pkL (adS s e cl o x) r = pkL s r := by
        unfold pkL
        rw [show 7 * r + 3 + 0 = 7 * r + 3 by omega, show 7 * r + 3 + 1 = 7 * r + 4 by omega, show 7 * r + 3 + 2 = 7 * r + 5 by omega, show 7 * r + 3 + 3 = 7 * r + 6 by omega, ee 3 (by omega) (by omega), ee 4 (by omega) (by omega), ee 5 (by omega) (by omega), ee 6 (by omega) (by omega)]
      rw [e5, ee 0 (by omega) (by omega), ee 1 (by omega) (by omega), ee 2 (by omega) (by omega)]
      exact h7
end ADDX
section READ2
variable {h h2 h3 : mH} {t : Int → Int} {n i j : Int} {r : Rd} {p : Pn} {nm s : Int → Int}
/-- plan and book, as read so far -/
def DtB (h : mH) (p : Pn) (nm s : Int → Int) : Prop := Pl h 1 p nm ∧ Bk h 2 p s ∧ (∀ f, 0 ≤ f → f < 4 → ∀ l, 0 ≤ l → l < 8 → jb (h 1 2 6) (8 * f + l) = jb (s (304 + f)) l) ∧ ∀ x, 0 ≤ x → x < 32 → h 6 2 x = 10000
def DtT (h : mH) (w b : Int → Int) : Prop := (∀ x, 0 ≤ x → x ≤ 5 → jb (h 24 0 7) (cw x) = decide (w x = 1)) ∧ ∀ f, 0 ≤ f → f < 4 → jb (h 24 0 8) f = decide (b f = 1)
theorem DtC.b (D : DtC h r) : DtB h (dP r) (dN r) (dS r) := ⟨D.1, D.2.1, D.2.2.1, D.2.2.2.1⟩
theorem DtC.tt (D : DtC h r) : DtT h (dW r) (dB r) := D.2.2.2.2
theorem DtC.mk (B : DtB h (dP r) (dN r) (dS r)) (T : DtT h (dW r) (dB r)) : DtC h r := ⟨B.1, B.2.1, B.2.2.1, B.2.2.2, T⟩
theorem DtB.fr (D : DtB h p nm s) (e1 : ∀ q, 7 ≤ q → q ≤ 11 → h2 q 1 = h q 1) (e2 : ∀ q, 1 ≤ q → q ≤ 6 → h2 q 2 = h q 2) : DtB h2 p nm s := ⟨D.1.fr e1, D.2.1.fr e2, by rw [e2 1 (by decide) (by decide)]; exact D.2.2.1, by rw [e2 6 (by decide) (by decide)]; exact D.2.2.2⟩
theorem DtB.f24 (D : DtB h p nm s) (F : Fr24 h h2) : DtB h2 p nm s := D.fr (fun q a b => F.1 q 1 (by omega)) (fun q a b => F.1 q 2 (by omega))
theorem DtT.fr {w b : Int → Int} (D : DtT h w b) (e7 : h2 24 0 7 = h 24 0 7) (e8 : h2 24 0 8 = h 24 0 8) : DtT h2 w b := by unfold DtT; rw [e7, e8]; exact D
theorem DtT.set {w b : Int → Int} (D : DtT h w b) {q : Nat} {c k v : Int} (hq : q ≠ 24) : DtT (mSet h q c k v) w b := D.fr (by rw [mSet_o (fun z => hq z.symm)]) (by rw [mSet_o (fun z => hq z.symm)])
theorem DtB.set1 (D : DtB h p nm s) {s2 : Int → Int} {k v : Int} (hk : k ≠ 6) (es : ∀ j, j < 308 ∨ j = 310 → s2 j = s j) (bn : BN (mSet h 1 2 k v) 2 s2) (ws : WfS p s2) : DtB (mSet h 1 2 k v) p nm s2 := by
  obtain ⟨d1, ⟨b1, b2, b3, b4, b5, b6⟩, d3, d4⟩ := D
  have hn := b5.1.1
  have hm := b6.1.1
  refine ⟨d1.fr (fun q a b => by rw [mSet_o (by omega)]), ⟨bn, fun f a b l c d => ?_, fun q a b => ?_, fun f a b l c d => ?_, b5, ws⟩, fun f a b l c d => ?_, fun x a b => ?_⟩
  · rw [mSet_kk (fun z => hk z.symm), es (304 + f) (by omega)]; exact b2 f a b l c d
  · rw [es 310 (by omega)] at b
    have := b3 q a b
    unfold pkL at this ⊢
    rw [mSet_o (by decide), mSet_o (by decide), mSet_o (by decide), mSet_o (by decide), es _ (by omega), es _ (by omega), es _ (by omega), es _ (by omega), es _ (by omega), es _ (by omega), es _ (by omega)]
    exact this
  · have hl := b5.2 f a b
    rw [mSet_o (by decide), es _ (by omega)]; exact b4 f a b l c d
  · rw [mSet_kk (fun z => hk z.symm), es (304 + f) (by omega)]; exact d3 f a b l c d
  · rw [mSet_o (by decide)]; exact d4 x a b
theorem DtB.plan (D : DtB h p nm s) {p2 : Pn} {k v : Int} (e1 : nf p2 = nf p) (e2 : lv p2 = lv p) (e3 : lo p2 = lo p) (e4 : hi p2 = hi p) (hw : WfP p2) (ws : WfS p2 s) (h0 : mSet h 7 1 k v 7 1 0 = nf p2) (h1 : mSet h 7 1 k v 7 1 1 = bd p2) (h2 : mSet h 7 1 k v 7 1 2 = sd p2) : DtB (mSet h 7 1 k v) p2 nm s := by
  obtain ⟨d1, ⟨b1, b2, b3, b4, b5, b6⟩, d3, d4⟩ := D
  refine ⟨⟨⟨h0, h1, h2⟩, fun f a b => ?_, hw⟩, ⟨?_, fun f a b l c d => ?_, ?_, fun f a b l c d => ?_, hw, ws⟩, ?_, ?_⟩
  · rw [e1] at b
    rw [mSet_o (by decide), mSet_o (by decide), mSet_o (by decide), mSet_o (by decide), e2, e3, e4]
    exact d1.2.1 f a b
  · unfold BN; rw [mSet_o (by decide)]; exact b1
  · rw [e1] at b; rw [mSet_o (by decide)]; exact b2 f a b l c d
  · unfold BR; rw [mSet_o (by decide), mSet_o (by decide), mSet_o (by decide), mSet_o (by decide)]; exact b3
  · rw [e1] at b; rw [e2] at d; rw [mSet_o (by decide)]; exact b4 f a b l c d
  · rw [mSet_o (by decide)]; exact d3
  · rw [mSet_o (by decide)]; exact d4
theorem cw_in {w : Int} (hw : 0 ≤ w ∧ w ≤ 5) : 4 ≤ cw w ∧ cw w ≤ 9 := by
  have : w = 0 ∨ w = 1 ∨ w = 2 ∨ w = 3 ∨ w = 4 ∨ w = 5 := by omega
  rcases this with rfl | rfl | rfl | rfl | rfl | rfl <;> decide
theorem cw_inj {w x : Int} (hw : 0 ≤ w ∧ w ≤ 5) (hx : 0 ≤ x ∧ x ≤ 5) : cw x = cw w ↔ x = w := by
  have a : w = 0 ∨ w = 1 ∨ w = 2 ∨ w = 3 ∨ w = 4 ∨ w = 5 := by omega
  have b : x = 0 ∨ x = 1 ∨ x = 2 ∨ x = 3 ∨ x = 4 ∨ x = 5 := by omega
  rcases a with rfl | rfl | rfl | rfl | rfl | rfl <;> rcases b with rfl | rfl | rfl | rfl | rfl | rfl <;> decide
/-- what a setting writes -/
def sHp (h : mH) (w v : Int) : mH := if w = 0 then mSet h 1 2 1 v else if w = 1 then mSet h 7 1 1 v else if w = 2 then mSet h 1 2 2 v else if w = 3 then mSet h 7 1 2 v else if w = 4 then mSet h 1 2 3 v else mSet h 1 2 4 v
theorem sHp_fr (h : mH) {w v : Int} : FrG h (sHp h w v) ∧ (∀ q : Nat, 12 ≤ q → sHp h w v q = h q) := by
  unfold sHp
  repeat' split
  all_goals exact ⟨FrG.set (by omega), fun q a => mSet_o (by omega)⟩
theorem sHp_d (D : DtB h p nm s) {w v : Int} (hw : 0 ≤ w ∧ w ≤ 5) (wp : WfP (setP p w v)) (ws : WfS (setP p w v) (setS s w v)) : DtB (sHp h w v) (setP p w v) nm (setS s w v) := by
  have b1 := D.2.1.1
  have pn := D.1.1
  have : w = 0 ∨ w = 1 ∨ w = 2 ∨ w = 3 ∨ w = 4 ∨ w = 5 := by omega
  rcases this with rfl | rfl | rfl | rfl | rfl | rfl
  · exact D.set1 (by decide) (fun j hj => up_ne (by omega)) ⟨by rw [mSet_kk (by decide)]; exact b1.1, mSet_e, by rw [mSet_kk (by decide)]; exact b1.2.2.1, by rw [mSet_kk (by decide)]; exact b1.2.2.2.1, by rw [mSet_kk (by decide)]; exact b1.2.2.2.2.1, by rw [mSet_kk (by decide)]; exact b1.2.2.2.2.2⟩ ws
  · exact D.plan rfl rfl rfl rfl wp ws (by rw [mSet_kk (by decide)]; exact pn.1) mSet_e (by rw [mSet_kk (by decide)]; exact pn.2.2)
  · exact D.set1 (by decide) (fun j hj => up_ne (by omega)) ⟨by rw [mSet_kk (by decide)]; exact b1.1, by rw [mSet_kk (by decide)]; exact b1.2.1, mSet_e, by rw [mSet_kk (by decide)]; exact b1.2.2.2.1, by rw [mSet_kk (by decide)]; exact b1.2.2.2.2.1, by rw [mSet_kk (by decide)]; exact b1.2.2.2.2.2⟩ ws
  · exact D.plan rfl rfl rfl rfl wp ws (by rw [mSet_kk (by decide)]; exact pn.1) (by rw [mSet_kk (by decide)]; exact pn.2.1) mSet_e
  · exact D.set1 (by decide) (fun j hj => up_ne (by omega)) ⟨by rw [mSet_kk (by decide)]; exact b1.1, by rw [mSet_kk (by decide)]; exact b1.2.1, by rw [mSet_kk (by decide)]; exact b1.2.2.1, mSet_e, by rw [mSet_kk (by decide)]; exact b1.2.2.2.2.1, by rw [mSet_kk (by decide)]; exact b1.2.2.2.2.2⟩ ws
  · exact D.set1 (by decide) (fun j hj => up_ne (by omega)) ⟨by rw [mSet_kk (by decide)]; exact b1.1, by rw [mSet_kk (by decide)]; exact b1.2.1, by rw [mSet_kk (by decide)]; exact b1.2.2.1, by rw [mSet_kk (by decide)]; exact b1.2.2.2.1, mSet_e, by rw [mSet_kk (by decide)]; exact b1.2.2.2.2.2⟩ ws
/-- a setting, told for the first time: the walk behind the word -/
theorem k4_setW {K : mH → Prop} {w : Int} (hw : 0 ≤ w ∧ w ≤ 5) (hj : jb (h 24 0 7) (cw w) = false) (T : OkV M4_advance [mR 24 0] (mSet h 24 0 7 (mOr (h 24 0 7) (mShl 1 (cw w)))) (fun h2 => OkI M4_takeNumber [mR 24 0, mI (loW w), mI (hiW w)] h2 (fun v h3 => if w = 5 then OkI M4_takeNumber [mR 24 0, mI 0, mI 500] (sHp h3 w v) (fun v2 h4 => K (mSet h4 1 2 5 v2)) else K (sHp h3 w v)))) : OkV M4_readSetting [mR 24 0, mI (cw w)] h K := by
  have hc := cw_in hw
  have e0 : mAnd (mShr (h 24 0 7) (cw w)) 1 = 0 := by rw [jb_01 (by omega) (by omega), hj]; rfl
  refine s4_readSetting ?_
  rw [e0]
  refine ⟨by decide, fun _ => ?_, fun z => absurd rfl z⟩
  rintro _ rfl
  refine Ok.mono T ?_
  rintro q h2 ⟨rfl, T⟩
  refine ⟨rfl, ?_⟩
  have : w = 0 ∨ w = 1 ∨ w = 2 ∨ w = 3 ∨ w = 4 ∨ w = 5 := by omega
  rcases this with rfl | rfl | rfl | rfl | rfl | rfl
  · refine ⟨by decide, fun _ => Ok.mono T ?_, fun z => absurd z (by decide), fun z => absurd z (by decide), fun z => absurd z (by decide), fun z => absurd z (by decide), fun z => absurd z (by decide), fun z => absurd z (by decide)⟩
    rintro q h3 ⟨v, rfl, T⟩
    exact ⟨v, rfl, fun h4 e => by subst e; exact T⟩
  · refine ⟨by decide, fun z => absurd z (by decide), fun _ => Ok.mono T ?_, fun z => absurd z (by decide), fun z => absurd z (by decide), fun z => absurd z (by decide), fun z => absurd z (by decide), fun z => absurd z (by decide)⟩
    rintro q h3 ⟨v, rfl, T⟩
    exact ⟨v, rfl, fun h4 e => by subst e; exact T⟩
  · refine ⟨by decide, fun z => absurd z (by decide), fun z => absurd z (by decide), fun _ => Ok.mono T ?_, fun z => absurd z (by decide), fun z => absurd z (by decide), fun z => absurd z (by decide), fun z => absurd z (by decide)⟩
    rintro q h3 ⟨v, rfl, T⟩
    exact ⟨v, rfl, fun h4 e => by subst e; exact T⟩
  · refine ⟨by decide, fun z => absurd z (by decide), fun z => absurd z (by decide), fun z => absurd z (by decide), fun z => absurd z (by decide), fun z => absurd z (by decide), fun _ => Ok.mono T ?_, fun z => absurd z (by decide)⟩
    rintro q h3 ⟨v, rfl, T⟩
    exact ⟨v, rfl, fun h4 e => by subst e; exact T⟩
  · refine ⟨by decide, fun z => absurd z (by decide), fun z => absurd z (by decide), fun z => absurd z (by decide), fun _ => Ok.mono T ?_, fun z => absurd z (by decide), fun z => absurd z (by decide), fun z => absurd z (by decide)⟩
    rintro q h3 ⟨v, rfl, T⟩
    exact ⟨v, rfl, fun h4 e => by subst e; exact T⟩
  · refine ⟨by decide, fun z => absurd z (by decide), fun z => absurd z (by decide), fun z => absurd z (by decide), fun z => absurd z (by decide), fun _ => Ok.mono T ?_, fun z => absurd z (by decide), fun z => absurd z (by decide)⟩
    rintro q h3 ⟨v, rfl, T⟩
    refine ⟨v, rfl, fun h4 e => ?_⟩
    subst e
    refine Ok.mono T ?_
    rintro q h3 ⟨v2, rfl, T⟩
    exact ⟨v2, rfl, fun h4 e => by subst e; exact T⟩
theorem k4_readSetting (C : CUR h t n (dI r) j) (D : DtC h r) (W : WfD n r) (hf : h 24 0 9 = 0) {w : Int} (hw : 0 ≤ w ∧ w ≤ 5) {K : mH → Prop} (k : ∀ h2, PC t n j h (bdSet t n r w) h2 → K h2) : OkV M4_readSetting [mR 24 0, mI (cw w)] h K := by
  have hc := cw_in hw
  have hT := W.2.2.2.2.2.2.2 w
  have hjb := D.tt.1 w hw.1 hw.2
  have hlo : 0 ≤ loW w ∧ loW w ≤ 99999 := by unfold loW; split <;> decide
  have hhi : -1 ≤ hiW w ∧ hiW w ≤ 99999 := by
    unfold hiW
    repeat' split
    all_goals decide
  by_cases z : dW r w = 0
  · rw [z] at hjb
    refine k4_setW hw hjb ?_
    have F0 : FrG h (mSet h 24 0 7 (mOr (h 24 0 7) (mShl 1 (cw w)))) := FrG.set (by omega)
    have C1 := C.set7 (m := 7) (v := mOr (h 24 0 7) (mShl 1 (cw w))) (by decide)
    have D1 : DtB (mSet h 24 0 7 (mOr (h 24 0 7) (mShl 1 (cw w)))) (dP r) (dN r) (dS r) := D.b.fr (fun q a b => by rw [mSet_o (by omega)]) (fun q a b => by rw [mSet_o (by omega)])
    have T1 : DtT (mSet h 24 0 7 (mOr (h 24 0 7) (mShl 1 (cw w)))) (up (dW r) w 1) (dB r) := by
      refine ⟨fun x a b => ?_, fun f a b => ?_⟩
      · have hcx := cw_in (w := x) ⟨a, b⟩
        rw [mSet_e, jb_or (by omega) (by omega) (by omega) (by omega), D.tt.1 x a b]
        unfold up
        by_cases y : x = w
        · rw [if_pos y, decide_eq_true ((cw_inj hw ⟨a, b⟩).2 y)]; simp
        · rw [if_neg y, decide_eq_false (fun u => y ((cw_inj hw ⟨a, b⟩).1 u)), Bool.or_false]
      · rw [mSet_kk (by decide)]; exact D.tt.2 f a b
    have f1 : mSet h 24 0 7 (mOr (h 24 0 7) (mShl 1 (cw w))) 24 0 9 = 0 := by rw [mSet_kk (by decide)]; exact hf
    refine k4_advance C1 (fun h2 j2 C2 a2 _ F2 e2 _ => k4_num C2 (e2.trans f1) hlo hhi (fun h3 j3 e3 a3 b3 C3 i3 F3 g3 => ?_) (fun h3 k3 e3 B3 F3 => ?_))
    · have F23 := F2.tr F3
      have D3 := D1.f24 F23
      have T3 := T1.fr F23.2.1 F23.2.2
      have W3 := wf_set W (i := tE t n (tE t n (dI r))) C3.b hw ⟨a3, b3⟩
      have D4 := sHp_d D3 hw W3.2.1 W3.2.2.1
      have hs := sHp_fr h3 (w := w) (v := tV t n (tE t n (dI r)))
      have C4 : CUR (sHp h3 w (tV t n (tE t n (dI r)))) t n (tE t n (tE t n (dI r))) j3 := C3.fr (by rw [hs.2 24 (by decide)]) (fun q a b => by rw [hs.2 q (by omega)])
      have T4 : DtT (sHp h3 w (tV t n (tE t n (dI r)))) (up (dW r) w 1) (dB r) := T3.fr (by rw [hs.2 24 (by decide)]) (by rw [hs.2 24 (by decide)])
      have FF := (F0.tr F23.g).tr hs.1
      by_cases w5 : w = 5
      · rw [if_pos w5]
        refine k4_num C4 (by rw [hs.2 24 (by decide)]; exact g3) (by decide) (by decide) (fun h5 j5 e5 a5 b5 C5 i5 F5 g5 => k _ ?_) (fun h5 k5 e5 B5 F5 => k _ ?_)
        · have eb : bdSet t n r w = Sum.inr (tE t n (tE t n (tE t n (dI r))), setP (dP r) w (tV t n (tE t n (dI r))), dN r, up (setS (dS r) w (tV t n (tE t n (dI r)))) 313 (tV t n (tE t n (tE t n (dI r)))), up (dW r) w 1, dB r, dL r) := by
            unfold bdSet
            rw [if_pos z, e3, if_pos w5, e5]
          rw [eb]
          have W5 := wf_off W3 (i := tE t n (tE t n (tE t n (dI r)))) (v := tV t n (tE t n (tE t n (dI r)))) C5.b ⟨a5, b5⟩
          have D5 := D4.f24 F5
          refine ⟨(FF.tr F5.g).tr (FrG.set (by omega)), j5, by omega, C5.set (by decide), DtC.mk ?_ ((T4.fr F5.2.1 F5.2.2).set (by decide)), W5, ?_⟩
          · refine D5.set1 (by decide) (fun x hx => up_ne (by omega)) ?_ W5.2.2.1
            have b1 := D5.2.1.1
            exact ⟨by rw [mSet_kk (by decide)]; exact b1.1, by rw [mSet_kk (by decide)]; exact b1.2.1, by rw [mSet_kk (by decide)]; exact b1.2.2.1, by rw [mSet_kk (by decide)]; exact b1.2.2.2.1, by rw [mSet_kk (by decide)]; exact b1.2.2.2.2.1, mSet_e⟩
          · rw [mSet_o (by decide)]; exact g5
        · have eb : bdSet t n r w = badE k5 (tP t n (tE t n (tE t n (dI r)))) := by
            unfold bdSet
            rw [if_pos z, e3, if_pos w5, e5]
          rw [eb]
          exact ⟨(FF.tr F5.g).tr (FrG.set (by omega)), B5.set (by decide)⟩
      · rw [if_neg w5]
        refine k _ ?_
        have eb : bdSet t n r w = Sum.inr (tE t n (tE t n (dI r)), setP (dP r) w (tV t n (tE t n (dI r))), dN r, setS (dS r) w (tV t n (tE t n (dI r))), up (dW r) w 1, dB r, dL r) := by
          unfold bdSet
          rw [if_pos z, e3, if_neg w5]
        rw [eb]
        exact ⟨FF, j3, by omega, C4, DtC.mk D4 T4, W3, by rw [hs.2 24 (by decide)]; exact g3⟩
    · have hs := sHp_fr h3 (w := w) (v := loW w)
      have eb : bdSet t n r w = badE k3 (tP t n (tE t n (dI r))) := by
        unfold bdSet
        rw [if_pos z, e3]
      have B4 : BdC n (sHp h3 w (loW w)) k3 (tP t n (tE t n (dI r))) := B3.fr (by rw [hs.2 24 (by decide)])
      have FF := (F0.tr (F2.tr F3).g).tr hs.1
      by_cases w5 : w = 5
      · rw [if_pos w5]
        refine k4_numF B4 (by decide) (by decide) (k _ ?_)
        rw [eb]
        exact ⟨FF.tr (FrG.set (by omega)), B4.set (by decide)⟩
      · rw [if_neg w5]
        refine k _ ?_
        rw [eb]
        exact ⟨FF, B4⟩
  · have z1 : dW r w = 1 := by omega
    rw [z1] at hjb
    have e1 : mAnd (mShr (h 24 0 7) (cw w)) 1 = 1 := by rw [jb_01 (by omega) (by omega), hjb]; rfl
    refine s4_readSetting ?_
    rw [e1]
    refine ⟨by decide, fun y => absurd y (by decide), fun _ => k4_fail C hf (by decide) (fun h2 B F => k h2 ?_)⟩
    have eb : bdSet t n r w = badE 3 (tP t n (dI r)) := by unfold bdSet; rw [if_neg z]
    rw [eb]
    exact ⟨F.g, B⟩
end READ2
