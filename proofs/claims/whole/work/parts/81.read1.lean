/-! the class reads a text: where it stands, what it has -/
def CUR (h : mH) (t : Int → Int) (n i j : Int) : Prop := ∃ m, (0 ≤ j ∧ j ≤ m ∧ m ≤ 900) ∧ h 24 0 3 = j + 1 ∧ h 20 0 3 = m + 1 ∧ (∀ q, 0 ≤ q → q ≤ m → TkQ (h 21 0 q) (h 22 0 q) (h 23 0 q) t n (tP t n (ps t n q))) ∧ tS t n (ps t n m) = 4 ∧ TkQ (h 24 0 4) (h 24 0 5) (h 24 0 6) t n (tP t n i) ∧ tP t n i = tP t n (ps t n j) ∧ (0 ≤ i ∧ i ≤ n) ∧ (0 ≤ n ∧ n ≤ 900) ∧ h 24 0 10 = -1
def Fr24 (h h2 : mH) : Prop := (∀ r j, ¬ (r = 24 ∧ j = 0) → h2 r j = h r j) ∧ h2 24 0 7 = h 24 0 7 ∧ h2 24 0 8 = h 24 0 8
def FrG (h h2 : mH) : Prop := ∀ r j, ¬ (r = 24 ∧ j = 0) → ¬ (7 ≤ r ∧ r ≤ 11 ∧ j = 1) → ¬ (1 ≤ r ∧ r ≤ 6 ∧ j = 2) → h2 r j = h r j
def BdC (n : Int) (h : mH) (k p : Int) : Prop := h 24 0 9 = k ∧ h 24 0 10 = p ∧ (1 ≤ k ∧ k ≤ 4) ∧ (0 ≤ p ∧ p ≤ n) ∧ mInR (h 24 0 4) ∧ mInR (h 24 0 5) ∧ (h 24 0 7 = h 24 0 7)
/-- what is read so far -/
def DtC (h : mH) (r : Rd) : Prop := Pl h 1 (dP r) (dN r) ∧ Bk h 2 (dP r) (dS r) ∧ (∀ f, 0 ≤ f → f < 4 → ∀ l, 0 ≤ l → l < 8 → jb (h 1 2 6) (8 * f + l) = jb (dS r (304 + f)) l) ∧ (∀ x, 0 ≤ x → x < 32 → h 6 2 x = 10000) ∧ (∀ w, 0 ≤ w → w ≤ 5 → jb (h 24 0 7) (cw w) = decide (dW r w = 1)) ∧ ∀ f, 0 ≤ f → f < 4 → jb (h 24 0 8) f = decide (dB r f = 1)
def PC (t : Int → Int) (n j0 : Int) (h : mH) (x : Er) (h2 : mH) : Prop := FrG h h2 ∧ match x with
  | Sum.inl e => BdC n h2 e.1 e.2
  | Sum.inr r => ∃ j, j0 ≤ j ∧ CUR h2 t n (dI r) j ∧ DtC h2 r ∧ WfD n r ∧ h2 24 0 9 = 0
section READ1
variable {h h2 h3 : mH} {t : Int → Int} {n i j : Int} {r : Rd}
theorem FrG.rf (h : mH) : FrG h h := fun _ _ _ _ _ => rfl
theorem FrG.tr (a : FrG h h2) (b : FrG h2 h3) : FrG h h3 := fun r j x y z => (b r j x y z).trans (a r j x y z)
theorem Fr24.tr (a : Fr24 h h2) (b : Fr24 h2 h3) : Fr24 h h3 := ⟨fun r j z => (b.1 r j z).trans (a.1 r j z), b.2.1.trans a.2.1, b.2.2.trans a.2.2⟩
theorem Fr24.rf (h : mH) : Fr24 h h := ⟨fun _ _ _ => rfl, rfl, rfl⟩
theorem Fr24.g (a : Fr24 h h2) : FrG h h2 := fun r j x _ _ => a.1 r j x
theorem FrG.set {q : Nat} {b k v : Int} (hq : (q = 24 ∧ b = 0) ∨ (7 ≤ q ∧ q ≤ 11 ∧ b = 1) ∨ (1 ≤ q ∧ q ≤ 6 ∧ b = 2)) : FrG h (mSet h q b k v) := by
  intro r j x y z
  funext m
  unfold mSet
  rw [if_neg]
  rintro ⟨rfl, rfl, -⟩
  rcases hq with w | w | w
  · exact x w
  · exact y w
  · exact z w
theorem BdC.ne {k p : Int} (B : BdC n h k p) : ¬ h 24 0 9 = 0 ∧ mInR (h 24 0 9) := by
  rw [B.1]
  have := B.2.2.1
  omega
theorem BdC.fr {k p : Int} (B : BdC n h k p) (e : h2 24 0 = h 24 0) : BdC n h2 k p := by unfold BdC; rw [e]; exact B
theorem BdC.set {k p : Int} (B : BdC n h k p) {q : Nat} {b m v : Int} (hq : q ≠ 24) : BdC n (mSet h q b m v) k p := B.fr (by rw [mSet_o (fun z => hq z.symm)])
theorem CUR.fr (C : CUR h t n i j) (e : h2 24 0 = h 24 0) (e2 : ∀ q : Nat, 20 ≤ q → q ≤ 23 → h2 q 0 = h q 0) : CUR h2 t n i j := by
  unfold CUR
  rw [e, e2 20 (by decide) (by decide), e2 21 (by decide) (by decide), e2 22 (by decide) (by decide), e2 23 (by decide) (by decide)]
  exact C
theorem CUR.set (C : CUR h t n i j) {q : Nat} {b m v : Int} (hq : q < 20) : CUR (mSet h q b m v) t n i j := C.fr (by rw [mSet_o (by omega)]) (fun w a c => by rw [mSet_o (by omega)])
/-- fields 7 and 8 don't matter for where it stands -/
theorem CUR.set7 (C : CUR h t n i j) {m v : Int} (hm : 7 ≤ m ∧ m ≠ 10) : CUR (mSet h 24 0 m v) t n i j := by
  unfold CUR
  rw [mSet_o (show (20 : Nat) ≠ 24 by decide), mSet_o (show (21 : Nat) ≠ 24 by decide), mSet_o (show (22 : Nat) ≠ 24 by decide), mSet_o (show (23 : Nat) ≠ 24 by decide), mSet_kk (show (3 : Int) ≠ m by omega), mSet_kk (show (4 : Int) ≠ m by omega), mSet_kk (show (5 : Int) ≠ m by omega), mSet_kk (show (6 : Int) ≠ m by omega), mSet_kk (show (10 : Int) ≠ m by omega)]
  exact C
theorem CUR.b (C : CUR h t n i j) : 0 ≤ i ∧ i ≤ n := by obtain ⟨m, -, -, -, -, -, -, -, h, -⟩ := C; exact h
theorem CUR.tk (C : CUR h t n i j) : TkQ (h 24 0 4) (h 24 0 5) (h 24 0 6) t n (tP t n i) := by obtain ⟨m, -, -, -, -, -, h, -⟩ := C; exact h
theorem CUR.pb (C : CUR h t n i j) : 0 ≤ tP t n i ∧ tP t n i ≤ n := by
  have := tP_bd (t := t) C.b.2
  have := C.b.1
  omega
theorem CUR.kR (C : CUR h t n i j) : h 24 0 4 = ck (tS t n i) ∧ mInR (h 24 0 4) ∧ mInR (h 24 0 5) := by
  have k := C.tk
  have hs := tS_bd (t := t) (n := n) (i := i)
  have e : h 24 0 4 = ck (tS t n i) := k.1
  refine ⟨e, ?_, k.2.2.1⟩
  rw [e]
  unfold ck
  repeat' split
  all_goals omega
theorem ck_eq {s k : Int} (hs : 0 ≤ s ∧ s ≤ 5) : (ck s = 0 ↔ s = 4) ∧ (ck s = 1 ↔ s = 0) ∧ (ck s = 2 ↔ s = 1) ∧ (ck s = 3 ↔ s = 2) ∧ (ck s = 4 ↔ s = 3) := by
  unfold ck
  repeat' split
  all_goals omega
theorem k4_advance (C : CUR h t n i j) {K : mH → Prop} (k : ∀ h2 j2, CUR h2 t n (tE t n i) j2 → j ≤ j2 → (tS t n i ≠ 4 → j + 1 ≤ j2) → Fr24 h h2 → h2 24 0 9 = h 24 0 9 → h2 24 0 10 = h 24 0 10 → K h2) : OkV M4_advance [mR 24 0] h K := by
  have C0 := C
  obtain ⟨m, hj, c3, cM, cT, cE, cK, cP, cI, cN⟩ := C
  have hE := tE_up (t := t) cI
  refine s4_advance ?_
  rw [c3, cM]
  refine ⟨by omega, fun z => by omega, fun _ => ⟨by omega, fun z => ?_, fun z => ⟨by omega, ?_⟩⟩⟩
  · have ej : j = m := by omega
    have eS : tS t n i = 4 := by
      have : tS t n i = tS t n (ps t n j) := by unfold tS; rw [cP]
      rw [this, ej]; exact cE
    have e3 := tS_end cI.2 eS
    have eP : tP t n (tE t n i) = tP t n i := by rw [e3.2.1, e3.2.2, e3.1]
    refine k h j ⟨m, hj, c3, cM, cT, cE, by rw [eP]; exact cK, by rw [eP]; exact cP, by omega, cN⟩ (Int.le_refl _) (fun w => absurd eS w) (Fr24.rf h) rfl rfl
  · rintro _ rfl
    rw [mSet_kk (show (3 : Int) ≠ 4 by decide), c3]
    refine ⟨by omega, ?_⟩
    rintro _ rfl
    rw [mSet_kk (show (3 : Int) ≠ 5 by decide), mSet_kk (show (3 : Int) ≠ 4 by decide), c3]
    refine ⟨by omega, ?_⟩
    rintro _ rfl
    rw [mSet_kk (show (3 : Int) ≠ 6 by decide), mSet_kk (show (3 : Int) ≠ 5 by decide), mSet_kk (show (3 : Int) ≠ 4 by decide), c3]
    rintro _ rfl
    rw [mSet_o (show (22 : Nat) ≠ 24 by decide), mSet_o (show (23 : Nat) ≠ 24 by decide), mSet_o (show (23 : Nat) ≠ 24 by decide)]
    have hn := ps_s (t := t) (n := n) (j := j) hj.1
    have eP : tP t n (tE t n i) = tP t n (ps t n (j + 1)) := by rw [hn]; unfold tE; rw [cP]
    have e10 : mSet (mSet (mSet (mSet h 24 0 4 (h 21 0 (j + 1))) 24 0 5 (h 22 0 (j + 1))) 24 0 6 (h 23 0 (j + 1))) 24 0 3 (j + 1 + 1) 24 0 10 = -1 := by rw [mSet_kk (by decide), mSet_kk (by decide), mSet_kk (by decide), mSet_kk (by decide)]; exact cN.2
    refine k _ (j + 1) ⟨m, by omega, mSet_e, ?_, fun q a b => ?_, cE, ?_, eP, by omega, cN.1, e10⟩ (by omega) (fun _ => Int.le_refl _) ⟨fun r b z => ?_, ?_, ?_⟩ ?_ ?_
    · rw [mSet_o (by decide), mSet_o (by decide), mSet_o (by decide), mSet_o (by decide)]; exact cM
    · have o : ∀ w : Nat, w ≠ 24 → mSet (mSet (mSet (mSet h 24 0 4 (h 21 0 (j + 1))) 24 0 5 (h 22 0 (j + 1))) 24 0 6 (h 23 0 (j + 1))) 24 0 3 (j + 1 + 1) w = h w := fun w z => by rw [mSet_o z, mSet_o z, mSet_o z, mSet_o z]
      rw [o 21 (by decide), o 22 (by decide), o 23 (by decide)]
      exact cT q a b
    · rw [mSet_kk (by decide), mSet_kk (by decide), mSet_kk (by decide), mSet_e, mSet_kk (by decide), mSet_kk (by decide), mSet_e, mSet_kk (by decide), mSet_e, eP]
      exact cT (j + 1) (by omega) (by omega)
    · have c : ∀ (H : mH) (a v : Int), mSet H 24 0 a v r b = H r b := by
        intro H a v
        funext x
        unfold mSet
        rw [if_neg (fun w => z ⟨w.1, w.2.1⟩)]
      rw [c, c, c, c]
    · rw [mSet_kk (by decide), mSet_kk (by decide), mSet_kk (by decide), mSet_kk (by decide)]
    · rw [mSet_kk (by decide), mSet_kk (by decide), mSet_kk (by decide), mSet_kk (by decide)]
    · rw [mSet_kk (by decide), mSet_kk (by decide), mSet_kk (by decide), mSet_kk (by decide)]
    · rw [mSet_kk (by decide), mSet_kk (by decide), mSet_kk (by decide), mSet_kk (by decide)]
theorem k4_fail (C : CUR h t n i j) (hf : h 24 0 9 = 0) {x : Int} (hx : 1 ≤ x ∧ x ≤ 4) {K : mH → Prop} (k : ∀ h2, BdC n h2 x (tP t n i) → Fr24 h h2 → K h2) : OkV M4_fail [mR 24 0, mI x] h K := by
  have hk := C.kR
  refine s4_fail ⟨by rw [hf]; decide, fun z => absurd hf z, fun _ => ?_⟩
  rintro _ rfl _ rfl
  refine k _ ⟨?_, ?_, hx, C.pb, ?_, ?_, rfl⟩ ⟨fun r b z => ?_, ?_, ?_⟩
  · rw [mSet_kk (by decide), mSet_e]
  · rw [mSet_e, mSet_kk (by decide)]; exact C.tk.2.1
  · rw [mSet_kk (by decide), mSet_kk (by decide)]; exact hk.2.1
  · rw [mSet_kk (by decide), mSet_kk (by decide)]; exact hk.2.2
  · have c : ∀ (H : mH) (a v : Int), mSet H 24 0 a v r b = H r b := by
      intro H a v
      funext x
      unfold mSet
      rw [if_neg (fun w => z ⟨w.1, w.2.1⟩)]
    rw [c, c]
  · rw [mSet_kk (by decide), mSet_kk (by decide)]
  · rw [mSet_kk (by decide), mSet_kk (by decide)]
theorem k4_failF {k p x : Int} (B : BdC n h k p) {K : mH → Prop} (kk : K h) : OkV M4_fail [mR 24 0, mI x] h K := s4_fail ⟨B.ne.2, fun _ => kk, fun z => absurd z B.ne.1⟩
theorem k4_numF {k p lo hi : Int} (B : BdC n h k p) (hlo : mInR lo) (hhi : mInR hi) {K : Int → mH → Prop} (kk : K lo h) : OkI M4_takeNumber [mR 24 0, mI lo, mI hi] h K := by
  have fin : A4_takeNumber_32 K lo hi h := s4_takeNumber_32 (k4_failF B ⟨B.ne.2, fun z => absurd z B.ne.1, fun _ => kk⟩)
  exact s4_takeNumber ⟨B.2.2.2.2.1, fun _ => ⟨⟨B.2.2.2.2.2.1, hlo⟩, fun _ => fin, fun _ => ⟨⟨B.2.2.2.2.2.1, hhi⟩, fun _ => ⟨B.ne.2, fun z => absurd z B.ne.1, fun _ => kk⟩, fun _ => fin⟩⟩, fun _ => k4_failF B ⟨B.ne.2, fun z => absurd z B.ne.1, fun _ => kk⟩⟩
theorem k4_num (C : CUR h t n i j) (hf : h 24 0 9 = 0) {lo hi : Int} (hlo : 0 ≤ lo ∧ lo ≤ 99999) (hhi : -1 ≤ hi ∧ hi ≤ 99999) {K : Int → mH → Prop} (k1 : ∀ h2 j2, (∀ ok, nuK t n i lo hi ok = ok (tV t n i)) → lo ≤ tV t n i → tV t n i ≤ hi → CUR h2 t n (tE t n i) j2 → j ≤ j2 → Fr24 h h2 → h2 24 0 9 = 0 → K (tV t n i) h2) (k0 : ∀ h2 k, (∀ ok, nuK t n i lo hi ok = badE k (tP t n i)) → BdC n h2 k (tP t n i) → Fr24 h h2 → K lo h2) : OkI M4_takeNumber [mR 24 0, mI lo, mI hi] h K := by
  have hk := C.kR
  have hsb := tS_bd (t := t) (n := n) (i := i)
  have hck := ck_eq (k := 0) hsb
  refine s4_takeNumber ?_
  rw [hk.1]
  refine ⟨by rw [← hk.1]; exact hk.2.1, fun z => ?_, fun z => ?_⟩
  · have e2 : tS t n i = 2 := hck.2.2.2.1.1 z
    have hv := tV_bd (t := t) (n := n) (i := i) (Or.inr (Or.inr e2))
    have hrv : rv (h 24 0 5) (tV t n i) := C.tk.2.2.2.2.2 e2
    have hR := hk.2.2
    have no : ¬ (lo ≤ tV t n i ∧ tV t n i ≤ hi) → A4_takeNumber_32 K lo hi h := fun w => s4_takeNumber_32 (k4_fail C hf (by decide) (fun h2 B F => ⟨B.ne.2, fun y => absurd y B.ne.1, fun _ => k0 h2 2 (fun ok => by unfold nuK; rw [if_pos e2, if_neg w]) B F⟩))
    unfold rv at hrv
    refine ⟨⟨hR, by omega⟩, fun z1 => no (by omega), fun z1 => ⟨⟨hR, by omega⟩, fun z2 => ⟨by rw [hf]; decide, fun _ => ?_, fun w => absurd hf w⟩, fun z2 => no (by omega)⟩⟩
    have ev : h 24 0 5 = tV t n i := by omega
    rw [ev]
    exact k4_advance C (fun h2 j2 C2 a b F2 e9 _ => k1 h2 j2 (fun ok => by unfold nuK; rw [if_pos e2, if_pos (by omega)]) (by omega) (by omega) C2 a F2 (e9.trans hf))
  · have e2 : ¬ tS t n i = 2 := fun w => z (hck.2.2.2.1.2 w)
    exact k4_fail C hf (by decide) (fun h2 B F => ⟨B.ne.2, fun y => absurd y B.ne.1, fun _ => k0 h2 1 (fun ok => by unfold nuK; rw [if_neg e2]) B F⟩)
theorem DtC.f24 (D : DtC h r) (F : Fr24 h h2) : DtC h2 r := by
  obtain ⟨d1, d2, d3, d4, d5, d6⟩ := D
  have e1 : h2 1 2 = h 1 2 := F.1 1 2 (by decide)
  have e6 : h2 6 2 = h 6 2 := F.1 6 2 (by decide)
  refine ⟨d1.fr (fun q a b => F.1 q 1 (by omega)), d2.fr (fun q a b => F.1 q 2 (by omega)), ?_, ?_, ?_, ?_⟩
  · rw [e1]; exact d3
  · rw [e6]; exact d4
  · rw [F.2.1]; exact d5
  · rw [F.2.2]; exact d6
end READ1
