/-! folds and searches; the reference's small questions -/
def flN {α : Type} (g : Int → α → α) (a : α) : Nat → α
  | 0 => a
  | n + 1 => g (n : Int) (flN g a n)
def fl {α : Type} (g : Int → α → α) (a : α) (n : Int) : α := flN g a n.toNat
theorem fl_0 {α : Type} (g : Int → α → α) (a : α) : fl g a 0 = a := rfl
theorem fl_s {α : Type} (g : Int → α → α) (a : α) {n : Int} (h : 0 ≤ n) : fl g a (n + 1) = g n (fl g a n) := by
  unfold fl
  rw [show (n + 1).toNat = n.toNat + 1 by omega]
  show g (n.toNat : Int) (flN g a n.toNat) = _
  rw [Int.toNat_of_nonneg h]
theorem fl_inv {α : Type} {g : Int → α → α} {a : α} (Q : α → Prop) (n : Int) (h0 : Q a) (hs : ∀ i b, 0 ≤ i → i < n → Q b → Q (g i b)) (m : Int) (hm : 0 ≤ m) (hn : m ≤ n) : Q (fl g a m) := by
  have key : ∀ k : Nat, (k : Int) ≤ n → Q (fl g a k) := by
    intro k
    induction k with
    | zero => intro _; exact h0
    | succ k ih =>
      intro hk
      rw [show ((k + 1 : Nat) : Int) = (k : Int) + 1 by omega, fl_s _ _ (by omega)]
      exact hs _ _ (by omega) (by omega) (ih (by omega))
  have := key m.toNat (by omega)
  rwa [Int.toNat_of_nonneg hm] at this
def lsN (P : Int → Bool) : Nat → Int
  | 0 => -2
  | n + 1 => if lsN P n = -2 then (if P (n : Int) then (n : Int) else -2) else lsN P n
/-- the least one, or -2 -/
def ls (P : Int → Bool) (n : Int) : Int := lsN P n.toNat
theorem ls_s (P : Int → Bool) {n : Int} (h : 0 ≤ n) : ls P (n + 1) = if ls P n = -2 then (if P n then n else -2) else ls P n := by
  unfold ls
  rw [show (n + 1).toNat = n.toNat + 1 by omega]
  show (if lsN P n.toNat = -2 then (if P (n.toNat : Int) then (n.toNat : Int) else -2) else lsN P n.toNat) = _
  rw [Int.toNat_of_nonneg h]
theorem lsN_no {P : Int → Bool} : ∀ n : Nat, (∀ i : Int, 0 ≤ i → i < n → P i = false) → lsN P n = -2
  | 0, _ => rfl
  | n + 1, h => by
    unfold lsN
    rw [lsN_no n (fun i a b => h i a (by omega)), if_pos rfl, h n (by omega) (by omega)]
    rfl
theorem ls_no {P : Int → Bool} {n : Int} (h : ∀ i, 0 ≤ i → i < n → P i = false) : ls P n = -2 := lsN_no _ (fun i a b => h i a (by omega))
theorem lsN_yes {P : Int → Bool} {i : Int} (h0 : 0 ≤ i) (hP : P i = true) (h : ∀ j, 0 ≤ j → j < i → P j = false) : ∀ n : Nat, i < n → lsN P n = i
  | 0, hn => by omega
  | n + 1, hn => by
    unfold lsN
    by_cases c : i = (n : Int)
    · rw [lsN_no n (fun j a b => h j a (by omega)), if_pos rfl, ← c, hP]
      rfl
    · rw [lsN_yes h0 hP h n (by omega), if_neg (by omega)]
theorem ls_yes {P : Int → Bool} {i n : Int} (h0 : 0 ≤ i) (h1 : i < n) (hP : P i = true) (h : ∀ j, 0 ≤ j → j < i → P j = false) : ls P n = i := lsN_yes h0 hP h _ (by omega)
theorem lsN_bd {P : Int → Bool} : ∀ n : Nat, lsN P n = -2 ∨ (0 ≤ lsN P n ∧ lsN P n < n)
  | 0 => Or.inl rfl
  | n + 1 => by
    have := lsN_bd (P := P) n
    unfold lsN
    split
    · split <;> omega
    · omega
theorem ls_bd {P : Int → Bool} {n : Int} (hn : 0 ≤ n) : ls P n = -2 ∨ (0 ≤ ls P n ∧ ls P n < n) := by
  have := lsN_bd (P := P) n.toNat
  unfold ls
  omega
def grN (P : Int → Bool) : Nat → Int
  | 0 => -2
  | n + 1 => if P (n : Int) then (n : Int) else grN P n
/-- the greatest one, or -2 -/
def gr (P : Int → Bool) (n : Int) : Int := grN P n.toNat
theorem grN_no {P : Int → Bool} : ∀ n : Nat, (∀ i : Int, 0 ≤ i → i < n → P i = false) → grN P n = -2
  | 0, _ => rfl
  | n + 1, h => by
    unfold grN
    rw [h n (by omega) (by omega)]
    exact grN_no n (fun i a b => h i a (by omega))
theorem gr_no {P : Int → Bool} {n : Int} (h : ∀ i, 0 ≤ i → i < n → P i = false) : gr P n = -2 := grN_no _ (fun i a b => h i a (by omega))
theorem grN_yes {P : Int → Bool} {i : Int} (h0 : 0 ≤ i) (hP : P i = true) : ∀ n : Nat, i < n → (∀ j : Int, i < j → j < n → P j = false) → grN P n = i
  | 0, hn, _ => by omega
  | n + 1, hn, h => by
    unfold grN
    by_cases c : i = (n : Int)
    · rw [← c, hP]
      rfl
    · rw [h n (by omega) (by omega)]
      exact grN_yes h0 hP n (by omega) (fun j a b => h j a (by omega))
theorem gr_yes {P : Int → Bool} {i n : Int} (h0 : 0 ≤ i) (h1 : i < n) (hP : P i = true) (h : ∀ j, i < j → j < n → P j = false) : gr P n = i := grN_yes h0 hP _ (by omega) (fun j a b => h j a (by omega))
section REF10
variable {p : Pn} {s : Int → Int}
/-- by how much claims and premiums differ -/
def dif (p : Pn) (s : Int → Int) (f l : Int) : Int := mAbs (csC s f l - csP p s f l)
theorem dif_bd (hp : WfP p) (hs : WfS p s) (f l : Int) : 0 ≤ dif p s f l ∧ dif p s f l ≤ 3959960400000 := by
  have h1 := csC_bd hs f l
  have h2 := csP_bd hp hs f l
  exact mAbs_bd (by omega)
def clL (s : Int → Int) (f l : Int) : Int := if fs s f l = l then 1 else 0
def clF (p : Pn) (s : Int → Int) (f : Int) : Int := sm (clL s f) (lv p f)
def farG (p : Pn) (s : Int → Int) (f l : Int) (a : Int × Int) : Int × Int := if fs s f l = l ∧ ¬ csR s f l = 0 ∧ a.2 < dif p s f l then (l, dif p s f l) else a
def far (p : Pn) (s : Int → Int) (f : Int) : Int := (fl (farG p s f) (-2, -1) (lv p f)).1
theorem farG_bd (hp : WfP p) (hs : WfS p s) (f : Int) (n : Int) (hn : 0 ≤ n) : -1 ≤ (fl (farG p s f) (-2, -1) n).2 ∧ (fl (farG p s f) (-2, -1) n).2 ≤ 3959960400000 := by
  refine fl_inv (fun a : Int × Int => -1 ≤ a.2 ∧ a.2 ≤ 3959960400000) n (by decide) (fun i b _ _ h => ?_) n hn (Int.le_refl _)
  have := dif_bd hp hs f i
  unfold farG
  split
  · exact ⟨by show -1 ≤ dif p s f i; omega, this.2⟩
  · exact h
variable {h : mH}
theorem c7_classesOf (R : Rf h p s) {K : Int → mH → Prop} {x1 : Int} (h0 : 0 ≤ x1) (h1 : x1 < nf p) (k : K (clF p s x1) h) : OkI M7_classesOf [mR 30 0, mI x1] h K := by
  have h4 := R.n4
  have hb := R.pf h0 h1
  refine s7_classesOf (upI (P := fun l => A7_classesOf_4 K x1 (sm (clL s x1) l) l h) (n := lv p x1) ?_ (fun l h5 h6 ih => ?_) 0 (by omega) (by omega))
  · refine s7_classesOf_4 ⟨by omega, ?_⟩
    rw [R.e35 h0 h1]
    exact ⟨by omega, fun _ => k, fun z => absurd (Int.le_refl _) z⟩
  · rw [sm_s _ h5] at ih
    have hf := fs_le (s := s) (f := x1) h5
    refine s7_classesOf_4 ⟨by omega, ?_⟩
    rw [R.e35 h0 h1]
    refine ⟨by omega, fun z => by omega, fun _ => c7_firstOf R.es (by omega) (by omega) ⟨by omega, fun z => ?_, fun z => ?_⟩⟩
    · rw [show clL s x1 l = 0 from if_neg z] at ih; exact ih
    · rw [show clL s x1 l = 1 from if_pos z] at ih; exact ih
theorem c7_farthestOff (R : Rf h p s) {K : Int → mH → Prop} {x1 : Int} (h0 : 0 ≤ x1) (h1 : x1 < nf p) (k : K (far p s x1) h) : OkI M7_farthestOff [mR 30 0, mI x1] h K := by
  have h4 := R.n4
  have hb := R.pf h0 h1
  refine s7_farthestOff (upI (P := fun l => A7_farthestOff_10 K x1 (fl (farG p s x1) (-2, -1) l).1 (fl (farG p s x1) (-2, -1) l).2 l h) (n := lv p x1) ?_ (fun l h5 h6 ih => ?_) 0 (by omega) (by omega))
  · refine s7_farthestOff_10 ⟨by omega, ?_⟩
    rw [R.e35 h0 h1]
    exact ⟨by omega, fun _ => k, fun z => absurd (Int.le_refl _) z⟩
  · have hi := farG_bd R.2.2.1 R.2.2.2 x1 l h5
    rw [fl_s _ _ h5] at ih
    revert ih hi
    generalize fl (farG p s x1) (-2, -1) l = a
    intro ih hi
    have hf := fs_le (s := s) (f := x1) h5
    have hd := dif_bd R.2.2.1 R.2.2.2 x1 l
    have hc := csC_bd R.2.2.2 x1 l
    have hP := csP_bd R.2.2.1 R.2.2.2 x1 l
    have hR := csR_bd R.2.2.2 x1 l
    refine s7_farthestOff_10 ⟨by omega, ?_⟩
    rw [R.e35 h0 h1]
    refine ⟨by omega, fun z => by omega, fun _ => c7_firstOf R.es (by omega) (by omega) ⟨by omega, fun z => ?_, fun z => c7_risksOf R h0 h1 h5 h6 ⟨by omega, fun z2 => c7_sumC R h0 h1 h5 h6 (c7_premiumsOf R h0 h1 h5 h6 (c7_without (by omega) ?_)), fun z2 => ?_⟩⟩⟩
    · rw [show farG p s x1 l a = a from if_neg (fun w => z w.1)] at ih; exact ih
    · refine ⟨⟨⟨by show -9223372036854775808 ≤ dif p s x1 l; omega, by show dif p s x1 l < 9223372036854775808; omega⟩, by omega⟩, fun z3 => ?_, fun z3 => ?_⟩
      · rw [show farG p s x1 l a = (l, dif p s x1 l) from if_pos ⟨z, z2, z3⟩] at ih; exact ih
      · rw [show farG p s x1 l a = a from if_neg (fun w => z3 w.2.2)] at ih; exact ih
    · rw [show farG p s x1 l a = a from if_neg (fun w => w.2.1 z2)] at ih; exact ih
/-- the one that is most off balance -/
def worG (p : Pn) (s : Int → Int) (f l : Int) (a : Int × Int) : Int × Int := if fs s f l = l ∧ bal p s f l = false ∧ a.2 < dif p s f l then (8 * f + l, dif p s f l) else a
def worF (p : Pn) (s : Int → Int) (f : Int) (a : Int × Int) : Int × Int := fl (worG p s f) a (lv p f)
def wor (p : Pn) (s : Int → Int) : Int := (fl (worF p s) (-2, -1) (nf p)).1
def WoB (a : Int × Int) : Prop := -1 ≤ a.2 ∧ a.2 ≤ 3959960400000
theorem worG_bd (hp : WfP p) (hs : WfS p s) (f i : Int) {b : Int × Int} (h : WoB b) : WoB (worG p s f i b) := by
  have := dif_bd hp hs f i
  unfold worG
  split
  · exact ⟨by show -1 ≤ dif p s f i; omega, this.2⟩
  · exact h
theorem worF_bd (hp : WfP p) (hs : WfS p s) (f : Int) {b : Int × Int} (h : WoB b) (n : Int) (hn : 0 ≤ n) : WoB (fl (worG p s f) b n) := fl_inv WoB n h (fun i _ _ _ hb => worG_bd hp hs f i hb) n hn (Int.le_refl _)
theorem c7_worst (R : Rf h p s) {K : Int → mH → Prop} (k : K (wor p s) h) : A7_worst_15 K (-2) (-1) 0 h := by
  have h4 := R.n4
  refine upI (P := fun f => A7_worst_15 K (fl (worF p s) (-2, -1) f).1 (fl (worF p s) (-2, -1) f).2 f h) (n := nf p) ?_ (fun f h5 h6 ih => ?_) 0 (by omega) (by omega)
  · exact s7_worst_15 (c7_factors R ⟨by omega, fun _ => k, fun z => absurd (Int.le_refl _) z⟩)
  · have hb := R.pf h5 h6
    have hw : WoB (fl (worF p s) (-2, -1) f) := fl_inv WoB f (by unfold WoB; decide) (fun i b a c hb => worF_bd R.2.2.1 R.2.2.2 i hb _ (by have := R.pf a (show i < nf p by omega); omega)) f h5 (Int.le_refl _)
    rw [fl_s _ _ h5] at ih
    revert ih hw
    generalize fl (worF p s) (-2, -1) f = a
    intro ih hw
    refine s7_worst_15 (c7_factors R ⟨by omega, fun z => by omega, fun _ => ?_⟩)
    refine upI (P := fun l => A7_worst_27 K (fl (worG p s f) a l).1 (fl (worG p s f) a l).2 f l h) (n := lv p f) ?_ (fun l h7 h8 jh => ?_) 0 (by omega) (by omega)
    · refine s7_worst_27 ⟨by omega, ?_⟩
      rw [R.e35 h5 h6]
      exact ⟨by omega, fun _ => ih, fun z => absurd (Int.le_refl _) z⟩
    · have hi := worF_bd R.2.2.1 R.2.2.2 f hw l h7
      rw [fl_s _ _ h7] at jh
      revert jh hi
      generalize fl (worG p s f) a l = b
      intro jh hi
      unfold WoB at hi
      have hf := fs_le (s := s) (f := f) h7
      have hd := dif_bd R.2.2.1 R.2.2.2 f l
      have hc := csC_bd R.2.2.2 f l
      have hP := csP_bd R.2.2.1 R.2.2.2 f l
      refine s7_worst_27 ⟨by omega, ?_⟩
      rw [R.e35 h5 h6]
      refine ⟨by omega, fun z => by omega, fun _ => c7_firstOf R.es (by omega) (by omega) ⟨by omega, fun z => ?_, fun z => c7_balances R h5 h6 h7 h8 (fun z2 => ⟨by decide, fun w => absurd w (by decide), fun _ => ?_⟩) (fun z2 => ⟨by decide, fun _ => c7_sumC R h5 h6 h7 h8 (c7_premiumsOf R h5 h6 h7 h8 (c7_without (by omega) ?_)), fun w => absurd rfl w⟩)⟩⟩
      · rw [show worG p s f l b = b from if_neg (fun w => z w.1)] at jh; exact jh
      · rw [show worG p s f l b = b from if_neg (fun w => by rw [z2] at w; exact absurd w.2.1 (by decide))] at jh; exact jh
      · refine ⟨⟨⟨by show -9223372036854775808 ≤ dif p s f l; omega, by show dif p s f l < 9223372036854775808; omega⟩, by omega⟩, fun z3 => ?_, fun z3 => ?_⟩
        · rw [show worG p s f l b = (8 * f + l, dif p s f l) from if_pos ⟨z, z2, z3⟩] at jh; exact jh
        · rw [show worG p s f l b = b from if_neg (fun w => z3 w.2.2)] at jh; exact jh
/-- how many at an end of their band -/
def aeL (s : Int → Int) (f e l : Int) : Int := if fs s f l = l ∧ s (280 + 6 * f + l) = e then 1 else 0
def aeF (p : Pn) (s : Int → Int) (f w : Int) : Int := sm (aeL s f (if w = 0 then lo p f else hi p f)) (lv p f)
theorem c7_atEnd (R : Rf h p s) {K : Int → mH → Prop} {x1 x2 : Int} (h0 : 0 ≤ x1) (h1 : x1 < nf p) (hx : 0 ≤ x2 ∧ x2 ≤ 1) (k : K (aeF p s x1 x2) h) : A7_atEnd_29 K x1 x2 0 0 h := by
  have h4 := R.n4
  have hb := R.pf h0 h1
  refine upI (P := fun l => A7_atEnd_29 K x1 x2 (sm (aeL s x1 (if x2 = 0 then lo p x1 else hi p x1)) l) l h) (n := lv p x1) ?_ (fun l h5 h6 ih => ?_) 0 (by omega) (by omega)
  · refine s7_atEnd_29 ⟨by omega, ?_⟩
    rw [R.e35 h0 h1]
    exact ⟨by omega, fun _ => k, fun z => absurd (Int.le_refl _) z⟩
  · rw [sm_s _ h5] at ih
    have hf := fs_le (s := s) (f := x1) h5
    have hr := rel_bd R.2.2.1 R.2.2.2 h0 h1 h5 h6
    refine s7_atEnd_29 ⟨by omega, ?_⟩
    rw [R.e35 h0 h1]
    refine ⟨by omega, fun z => by omega, fun _ => c7_firstOf R.es (by omega) (by omega) ⟨by omega, fun z => ?_, fun z => c7_relativityOf R.es (by omega) (by omega) ?_⟩⟩
    · rw [show aeL s x1 _ l = 0 from if_neg (fun w => z w.1)] at ih; exact ih
    · rw [R.e36 h0 h1, R.e37 h0 h1]
      refine ⟨by omega, fun z2 => ?_, fun z2 => ?_⟩
      · rw [if_neg z2] at ih ⊢
        refine ⟨by omega, by omega, fun z3 => ?_, fun z3 => ?_⟩
        · rw [show aeL s x1 (hi p x1) l = 0 from if_neg (fun w => z3 w.2)] at ih; exact ih
        · rw [show aeL s x1 (hi p x1) l = 1 from if_pos ⟨z, z3⟩] at ih; exact ih
      · rw [if_pos z2] at ih ⊢
        refine ⟨by omega, by omega, fun z3 => ?_, fun z3 => ?_⟩
        · rw [show aeL s x1 (lo p x1) l = 0 from if_neg (fun w => z3 w.2)] at ih; exact ih
        · rw [show aeL s x1 (lo p x1) l = 1 from if_pos ⟨z, z3⟩] at ih; exact ih
end REF10
