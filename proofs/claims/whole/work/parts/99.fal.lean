/-! the law's start: what the Statement gives, as the world has it -/
theorem st_arr {args : Array Value} {s : State} {ty : FieldType} (h : (Cond.arrayClass ty).before args s = true) : ∃ c : ClassId, ArrOfT s c ty ∧ s.vm.findClass ("[" ++ ty.toString) = some c := by
  obtain ⟨cA, kA, comp, h1, h2, h3⟩ := Cond.arrayClass_spec h
  exact ⟨cA, fun n z => ⟨fun k h => (by cases h), kA, h2, comp, h3⟩, h1⟩
theorem st_book {args : Array Value} {s : State} (h : (Cond.arrayOver (.object "RateOffice$Book")).before args s = true) : ∃ c : ClassId, ArrOfT s c (.object "RateOffice$Book") ∧ va_RA s c (.object "RateOffice$Book") := by
  obtain ⟨comp, c, k, h1, h2, h3, h4, h5⟩ := Cond.arrayOver_spec h
  exact ⟨c, fun n z => ⟨fun k h => (by cases h), k, h3, comp, h4⟩, k, comp, h3, h4, h1, h5⟩
theorem st_inst : ∀ q ∈ vwCl, Cond.instantiable q.1 q.2.2 ∈ mTbl := by
  have h1 : ∀ q ∈ vwCl, Cond.instantiable q.1 q.2.2 ∈ lw_tbl ∧ goodWord (Cond.instantiable q.1 q.2.2) = true := by decide +kernel
  exact fun q hq => List.mem_filter.mpr (h1 q hq)
theorem st_K {args : Array Value} {s : State} (hts : ∀ w ∈ lw_tbl, w.before args s = true) : ∃ (D : va_G) (cA : Nat → ClassId), va_K D vwCl (mTys cA) s := by
  have ht : ∀ w ∈ mTbl, w.before args s = true := fun w hw => hts w (List.mem_filter.mp hw).1
  have h0 : ∀ c : Nat, ∃ q : ClassId × (Nat → Nat), ∀ r : vw_C, vwCl[c]? = some r → u_Kn s r.1 r.2.1 r.2.2 q.1 q.2 := by
    intro c
    cases hc : vwCl[c]? with
    | none => exact ⟨(0, fun _ => 0), fun r h => by cases h⟩
    | some r =>
      obtain ⟨cC, iS, hk⟩ := u_known ht (mLay c r hc) (ht _ (st_inst r (List.mem_of_getElem? hc)))
      exact ⟨(cC, iS), fun r2 h => by cases h; exact hk⟩
  obtain ⟨D, hD⟩ := Classical.axiomOfChoice h0
  obtain ⟨c0, a0, b0⟩ := st_arr (ht _ ka_byte)
  obtain ⟨c1, a1, b1⟩ := st_arr (ht _ ka_int)
  obtain ⟨c2, a2, b2⟩ := st_arr (ht _ ka_long)
  obtain ⟨c3, a3, b3⟩ := st_arr (ht _ ka_boolean)
  obtain ⟨c4, a4, b4⟩ := st_book (hts (.arrayOver (.object "RateOffice$Book")) (List.mem_of_getElem? (i := 362) (by decide +kernel)))
  refine ⟨(fun c => (D c).1, fun c => (D c).2), fun k => match k with
    | 0 => c0
    | 1 => c1
    | 2 => c2
    | 3 => c3
    | _ => c4, fun c q hq => hD c q hq, fun k q hq => ?_⟩
  match k with
  | 0 => cases hq; exact ⟨a0, b0⟩
  | 1 => cases hq; exact ⟨a1, b1⟩
  | 2 => cases hq; exact ⟨a2, b2⟩
  | 3 => cases hq; exact ⟨a3, b3⟩
  | 4 => cases hq; exact ⟨a4, b4⟩
  | k + 5 => cases hq
theorem st_nest : ∀ q ∈ mNst, Cond.methodLinkNest q.1 q.2.1 q.2.2.1 q.2.2.2 ∈ lw_tbl := by decide +kernel
def stT (i : Nat) : Term := if i = 0 then .string "RateOffice$Tokens" 63 else .string "RateOfficeModel" 108
def stL : List Nat := [54, 54]
def stB : List (List Int32) := [mBy0, mBy1]
set_option maxRecDepth 100000 in
theorem st_el : ∀ i ∈ List.range 2, ∀ j ∈ List.range (stL.getD i 0), Cond.eq (.elem (.field (stT i) "java/lang/String" "value" "[B") (.int (Int32.ofNat j))) (.int ((stB.getD i []).getD j 0)) ∈ flatC (Jvm.Cond.and given_1 narrow_1) := by decide +kernel
theorem st_ex : ∀ i ∈ List.range 2, Cond.exactly (stT i) "java/lang/String" ∈ flatC (Jvm.Cond.and given_1 narrow_1) := by decide +kernel
theorem st_co : ∀ i ∈ List.range 2, Cond.eq (.field (stT i) "java/lang/String" "coder" "B") (.int 0) ∈ flatC (Jvm.Cond.and given_1 narrow_1) := by decide +kernel
theorem st_ar : ∀ i ∈ List.range 2, Cond.arrayOf (.field (stT i) "java/lang/String" "value" "[B") .byte ∈ flatC (Jvm.Cond.and given_1 narrow_1) := by decide +kernel
theorem st_le : ∀ i ∈ List.range 2, Cond.eq (.length (.field (stT i) "java/lang/String" "value" "[B")) (.int (Int32.ofNat (stL.getD i 0))) ∈ flatC (Jvm.Cond.and given_1 narrow_1) := by decide +kernel
theorem st_ne : Cond.not (Cond.eq (stT 0) (stT 1)) ∈ flatC (Jvm.Cond.and given_1 narrow_1) ∨ Cond.not (Cond.eq (stT 1) (stT 0)) ∈ flatC (Jvm.Cond.and given_1 narrow_1) := by decide +kernel
theorem st_sr0 : Cond.stringRef "RateOffice$Tokens" 63 mTx0 ∈ lw_tbl := List.mem_of_getElem? (i := 453) (by decide +kernel)
theorem st_sr1 : Cond.stringRef "RateOfficeModel" 108 mTx1 ∈ lw_tbl := List.mem_of_getElem? (i := 1313) (by decide +kernel)
def stWd : List Cond := [.laysStatic "java/lang/String" "COMPACT_STRINGS" "Z", .initialized "java/lang/String", .laysStatic "jdk/internal/util/Preconditions" "SIOOBE_FORMATTER" "Ljava/util/function/BiFunction;", .initialized "jdk/internal/util/Preconditions", .laysStatic Bundle.tN "UNASSIGNED_STACK" Bundle.steD, .laysStatic Bundle.tN "SUPPRESSED_SENTINEL" Bundle.listD, .initialized Bundle.tN, .castable xI xI, .castable xN xN, .declares (Bundle.init0 "java/lang/RuntimeException"), .declares (Bundle.init0 "java/lang/Exception"), .declares (Bundle.init0 Bundle.tN)] 
theorem st_wd : ∀ w ∈ stWd, w ∈ lw_tbl := by decide +kernel
def stGv : List Cond := [.eq (.static "java/lang/String" "COMPACT_STRINGS" "Z") (.int 1), .isRef (.static "jdk/internal/util/Preconditions" "SIOOBE_FORMATTER" "Ljava/util/function/BiFunction;"), .isRef (.static Bundle.tN "UNASSIGNED_STACK" Bundle.steD), .isRef (.static Bundle.tN "SUPPRESSED_SENTINEL" Bundle.listD), .not (.castable xN xI)]
theorem st_gv : ∀ w ∈ stGv, w ∈ flatC (Jvm.Cond.and given_1 narrow_1) := by decide +kernel
/-- all of it -/
theorem st_all {p : Program} {s : State} {m : MethodId} {meth : Method} {c : Code} {b L : Nat} {xs : Nat → Int32} (C0 : lw_At p s m meth c b L xs) : ∃ (D : va_G) (cA : Nat → ClassId) (ad : Nat → Int → Nat), mFx D cA ad (fun q => s.heap.size ≤ q) s s.heap ∧ mX (fun q => s.heap.size ≤ q) s s.heap ∧ va_AO "RateOffice$Book" s ∧ ad 70 0 = b := by
  obtain ⟨-, -, -, -, -, hts, -, -, -, hgv⟩ := C0
  have hg := flat_of_before _ hgv
  have hA : ∀ a : Nat, a < s.heap.size → ¬ (s.heap.size ≤ a) := fun a h => Nat.not_le.mpr h
  obtain ⟨D, cA, hK⟩ := st_K hts
  obtain ⟨adK, adV, hS, hev⟩ := vk_Sof (args := #[Value.ref b]) (s := s) (N := 2) (tm := stT) (len := stL) (byt := stB) (A := fun q => s.heap.size ≤ q) (by decide) (fun i hi => hg _ (st_ex i (List.mem_range.mpr hi))) (fun i hi => hg _ (st_co i (List.mem_range.mpr hi))) (fun i hi => hg _ (st_ar i (List.mem_range.mpr hi))) (fun i hi => hg _ (st_le i (List.mem_range.mpr hi))) (fun i hi j hj => hg _ (st_el i (List.mem_range.mpr hi) j (List.mem_range.mpr hj)))
    (fun i j hi hj hij => by
      have h9 := st_ne
      match i, j, hi, hj, hij with
      | 0, 0, _, _, z => exact absurd rfl z
      | 1, 1, _, _, z => exact absurd rfl z
      | 0, 1, _, _, _ => exact h9.elim (fun z => Or.inl (hg _ z)) (fun z => Or.inr (hg _ z))
      | 1, 0, _, _, _ => exact h9.elim (fun z => Or.inr (hg _ z)) (fun z => Or.inl (hg _ z))) hA
  have wd : ∀ w ∈ stWd, w.before #[Value.ref b] s = true := fun w hw => hts w (st_wd w hw)
  have wg : ∀ w ∈ stGv, w.before #[Value.ref b] s = true := fun w hw => hg w (st_gv w hw)
  refine ⟨D, cA, fun r i => if r = 60 then adK i.toNat else if r = 61 then adV i.toNat else b, ⟨hK, fun q hq => va_Nw.of rfl (hts _ (st_nest q hq)), ?_⟩, ⟨fun q hq => ?_, fun y hy => ?_, va_Nc.of (wg (.not (.castable xN xI)) (by decide +kernel)), vx_Zqof (wd (.laysStatic Bundle.tN "UNASSIGNED_STACK" Bundle.steD) (by decide +kernel)) (wd (.initialized Bundle.tN) (by decide +kernel)) (wg (.isRef (.static Bundle.tN "UNASSIGNED_STACK" Bundle.steD)) (by decide +kernel)) hA, vx_Zqof (wd (.laysStatic Bundle.tN "SUPPRESSED_SENTINEL" Bundle.listD) (by decide +kernel)) (wd (.initialized Bundle.tN) (by decide +kernel)) (wg (.isRef (.static Bundle.tN "SUPPRESSED_SENTINEL" Bundle.listD)) (by decide +kernel)) hA⟩, va_AO.of (hts (.arrayOver (.object "RateOffice$Book")) (List.mem_of_getElem? (i := 362) (by decide +kernel))), rfl⟩
  · have e0 := hev 0 (by decide)
    have e1 := hev 1 (by decide)
    refine ⟨vk_R.of (hts _ st_sr0) e0, vk_R.of (hts _ st_sr1) e1, hS, va_Zof (wd (.laysStatic "java/lang/String" "COMPACT_STRINGS" "Z") (by decide +kernel)) (wd (.initialized "java/lang/String") (by decide +kernel)) (va_eqt (wg (.eq (.static "java/lang/String" "COMPACT_STRINGS" "Z") (.int 1)) (by decide +kernel))) hA, va_Zqof (wd (.laysStatic "jdk/internal/util/Preconditions" "SIOOBE_FORMATTER" "Ljava/util/function/BiFunction;") (by decide +kernel)) (wd (.initialized "jdk/internal/util/Preconditions") (by decide +kernel)) (wg (.isRef (.static "jdk/internal/util/Preconditions" "SIOOBE_FORMATTER" "Ljava/util/function/BiFunction;")) (by decide +kernel)) hA⟩
  · have : Cond.castable q.1 q.2 ∈ lw_tbl := (by decide +kernel : ∀ q ∈ xCs, Cond.castable q.1 q.2 ∈ lw_tbl) q hq
    exact va_Nw.of rfl (hts _ this)
  · have : Cond.declares y ∈ lw_tbl := (by decide +kernel : ∀ y ∈ xDs, Cond.declares y ∈ lw_tbl) y hy
    exact va_Nw.of rfl (hts _ this)
