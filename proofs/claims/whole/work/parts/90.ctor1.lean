/-! constructors: worlds with objects that aren't whole yet -/
theorem wP_mem {D : va_G} {cl : List vw_C} {ws : va_W} {H : Heap} : va_P D cl ws H ↔ ∀ q ∈ ws, va_at D cl q H := by
  constructor
  · intro h q hq
    obtain ⟨k, hk⟩ := List.getElem?_of_mem hq
    exact h k q hk
  · intro h k q hk
    exact h q (List.mem_of_getElem? hk)
theorem wD_iff {A : Nat → Prop} {ws : va_W} : va_D A ws ↔ (ws.map (fun q => q.1)).Nodup ∧ ∀ q ∈ ws, A q.1 := by
  constructor
  · rintro ⟨h1, h2⟩
    refine ⟨?_, fun q hq => ?_⟩
    · refine List.pairwise_iff_getElem.mpr (fun i j hi hj hij e => ?_)
      rw [List.length_map] at hi hj
      rw [List.getElem_map, List.getElem_map] at e
      have := h1 i j ws[i] ws[j] (List.getElem?_eq_getElem hi) (List.getElem?_eq_getElem hj) e
      omega
    · obtain ⟨k, hk⟩ := List.getElem?_of_mem hq
      exact h2 k q hk
  · rintro ⟨h1, h2⟩
    refine ⟨fun i j p q hi hj e => ?_, fun k q hk => h2 q (List.mem_of_getElem? hk)⟩
    obtain ⟨hi1, hi2⟩ := List.getElem?_eq_some_iff.mp hi
    obtain ⟨hj1, hj2⟩ := List.getElem?_eq_some_iff.mp hj
    have key := List.pairwise_iff_getElem.mp h1
    rcases Nat.lt_trichotomy i j with z | z | z
    · have := key i j (by rw [List.length_map]; exact hi1) (by rw [List.length_map]; exact hj1) z
      rw [List.getElem_map, List.getElem_map, hi2, hj2] at this
      exact absurd e this
    · exact z
    · have := key j i (by rw [List.length_map]; exact hj1) (by rw [List.length_map]; exact hi1) z
      rw [List.getElem_map, List.getElem_map, hi2, hj2] at this
      exact absurd e.symm this
theorem wP_perm {D : va_G} {cl : List vw_C} {ws w2 : va_W} {H : Heap} (hp : ws.Perm w2) (h : va_P D cl ws H) : va_P D cl w2 H := wP_mem.mpr (fun q hq => wP_mem.mp h q (hp.mem_iff.mpr hq))
theorem wD_perm {A : Nat → Prop} {ws w2 : va_W} (hp : ws.Perm w2) (h : va_D A ws) : va_D A w2 := by
  obtain ⟨h1, h2⟩ := wD_iff.mp h
  exact wD_iff.mpr ⟨(hp.map _).nodup_iff.mp h1, fun q hq => h2 q (hp.mem_iff.mpr hq)⟩
theorem wA_perm {ws w2 : va_W} {sz q : Nat} (hp : ws.Perm w2) : va_A ws sz q ↔ va_A w2 sz q := by
  have key : ∀ w : va_W, (∃ (k : Nat) (e : va_E), w[k]? = some (q, e)) ↔ ∃ e : va_E, (q, e) ∈ w := by
    intro w
    constructor
    · rintro ⟨k, e, hk⟩; exact ⟨e, List.mem_of_getElem? hk⟩
    · rintro ⟨e, he⟩
      obtain ⟨k, hk⟩ := List.getElem?_of_mem he
      exact ⟨k, e, hk⟩
  unfold va_A
  rw [key, key]
  constructor
  · rintro (⟨e, he⟩ | z)
    · exact Or.inl ⟨e, hp.mem_iff.mp he⟩
    · exact Or.inr z
  · rintro (⟨e, he⟩ | z)
    · exact Or.inl ⟨e, hp.mem_iff.mpr he⟩
    · exact Or.inr z
theorem mW_app {cA : Nat → ClassId} {ad : Nat → Int → Nat} {a b : List (Nat × Int)} {h : mH} : mW cA ad (a ++ b) h = mW cA ad a h ++ mW cA ad b h := List.map_append
/-- where a cell points -/
def tgs (r : Nat) (i : Int) : List (Nat × Int) := match mT r with
  | .inr o => o.2.filterMap (fun d => d.map (fun q => (q.1, q.2 i)))
  | .inl a => if a.1 = 4 then (List.range a.2).map (fun (k : Nat) => ((1, 4 + (k : Int)) : Nat × Int)) else []
theorem closed_of {ids : List (Nat × Int)} (h : ∀ q ∈ ids, ∀ t ∈ tgs q.1 q.2, t ∈ ids) : mClosed ids := by
  refine ⟨fun r i ci fs k q hm ht hk => ?_, fun r i n hm ht k h0 h1 => ?_⟩
  · refine h (r, i) hm _ ?_
    unfold tgs
    rw [ht]
    exact List.mem_filterMap.mpr ⟨some q, List.mem_of_getElem? hk, rfl⟩
  · refine h (r, i) hm _ ?_
    unfold tgs
    rw [ht]
    show (1, 4 + k) ∈ (if (4 : Nat) = 4 then (List.range n).map (fun (k : Nat) => ((1, 4 + (k : Int)) : Nat × Int)) else [])
    rw [if_pos rfl]
    exact List.mem_map.mpr ⟨k.toNat, List.mem_range.mpr (by omega), by rw [Int.toNat_of_nonneg h0]⟩
theorem tgs_of {ids : List (Nat × Int)} (h : mClosed ids) : ∀ q ∈ ids, ∀ t ∈ tgs q.1 q.2, t ∈ ids := by
  rintro ⟨r, i⟩ hm t ht
  unfold tgs at ht
  cases e : mT r with
  | inr o =>
    obtain ⟨ci, fs⟩ := o
    rw [e] at ht
    obtain ⟨d, hd, hd2⟩ := List.mem_filterMap.mp ht
    cases d with
    | none => cases hd2
    | some q =>
      obtain ⟨k, hk⟩ := List.getElem?_of_mem hd
      have := h.1 r i ci fs k q hm e hk
      cases hd2
      exact this
  | inl a =>
    obtain ⟨a1, a2⟩ := a
    rw [e] at ht
    by_cases z : a1 = 4
    · subst z
      have ht2 : t ∈ (List.range a2).map (fun (k : Nat) => ((1, 4 + (k : Int)) : Nat × Int)) := ht
      obtain ⟨k, hk, rfl⟩ := List.mem_map.mp ht2
      exact h.2 r i a2 hm e k (by omega) (by have := List.mem_range.mp hk; omega)
    · have ht2 : t ∈ (if a1 = 4 then (List.range a2).map (fun (k : Nat) => ((1, 4 + (k : Int)) : Nat × Int)) else []) := ht
      rw [if_neg z] at ht2
      cases ht2
theorem closed_app {ids N : List (Nat × Int)} (h : mClosed ids) (hN : ∀ q ∈ N, ∀ t ∈ tgs q.1 q.2, t ∈ ids ++ N) : mClosed (ids ++ N) := by
  refine closed_of (fun q hq t ht => ?_)
  rcases List.mem_append.mp hq with z | z
  · exact List.mem_append_left _ (tgs_of h q z t ht)
  · exact hN q z t ht
theorem mEnt_ad {cA : Nat → ClassId} {ad ad2 : Nat → Int → Nat} {h h2 : mH} {r : Nat} {i : Int} (eh : h2 r i = h r i) (et : ∀ t ∈ tgs r i, ad2 t.1 t.2 = ad t.1 t.2) (e4 : ∀ n, mT r = .inl (4, n) → ∀ k : Nat, n ≤ k → ad2 1 (4 + (k : Int)) = ad 1 (4 + (k : Int))) : mEnt cA ad2 h2 (r, i) = mEnt cA ad h (r, i) := by
  unfold mEnt
  cases e : mT r with
  | inl a =>
    obtain ⟨a1, a2⟩ := a
    show Sum.inl (cA a1, mRow ad2 h2 r i a1 a2) = Sum.inl (cA a1, mRow ad h r i a1 a2)
    unfold mRow
    rw [eh]
    match a1, e with
    | 4, e =>
      have key : (fun j : Nat => some (ad2 1 (4 + (j : Int)))) = (fun j : Nat => some (ad 1 (4 + (j : Int)))) := by
        funext j
        by_cases z : a2 ≤ j
        · rw [e4 a2 e j z]
        · have := et (1, 4 + (j : Int)) (by
            unfold tgs
            rw [e]
            show ((1, 4 + (j : Int)) : Nat × Int) ∈ (if (4 : Nat) = 4 then (List.range a2).map (fun (k : Nat) => ((1, 4 + (k : Int)) : Nat × Int)) else [])
            rw [if_pos rfl]
            exact List.mem_map.mpr ⟨j, List.mem_range.mpr (by omega), rfl⟩)
          rw [this]
      show Sum.inl (cA 4, (a2, Sum.inr (Sum.inr (Sum.inr (Sum.inr (fun j : Nat => some (ad2 1 (4 + (j : Int))))))))) = Sum.inl (cA 4, (a2, Sum.inr (Sum.inr (Sum.inr (Sum.inr (fun j : Nat => some (ad 1 (4 + (j : Int)))))))))
      rw [key]
    | 0, _ => rfl
    | 1, _ => rfl
    | 2, _ => rfl
    | 3, _ => rfl
    | a1 + 5, _ => rfl
  | inr o =>
    obtain ⟨ci, fs⟩ := o
    show Sum.inr (ci, mFs ad2 h2 r i fs) = Sum.inr (ci, mFs ad h r i fs)
    have key : mFs ad2 h2 r i fs = mFs ad h r i fs := by
      unfold mFs
      apply List.ext_getElem?
      intro k
      rw [List.getElem?_mapIdx, List.getElem?_mapIdx]
      cases hk : fs[k]? with
      | none => rfl
      | some d =>
        cases d with
        | none =>
          show some (Value.int (Int32.ofInt (h2 r i (k : Int)))) = some (Value.int (Int32.ofInt (h r i (k : Int))))
          rw [eh]
        | some q =>
          have := et (q.1, q.2 i) (by
            unfold tgs
            rw [e]
            exact List.mem_filterMap.mpr ⟨some q, List.mem_of_getElem? hk, rfl⟩)
          show some (Value.ref (ad2 q.1 (q.2 i))) = some (Value.ref (ad q.1 (q.2 i)))
          rw [this]
    rw [key]
theorem mW_congr {cA : Nat → ClassId} {ad ad2 : Nat → Int → Nat} {h h2 : mH} {ids : List (Nat × Int)} (hC : mClosed ids) (ea : ∀ q ∈ ids, ad2 q.1 q.2 = ad q.1 q.2) (eh : ∀ q ∈ ids, h2 q.1 q.2 = h q.1 q.2) (e4 : ∀ q ∈ ids, ∀ n, mT q.1 = .inl (4, n) → ∀ k : Nat, n ≤ k → ad2 1 (4 + (k : Int)) = ad 1 (4 + (k : Int))) : mW cA ad2 ids h2 = mW cA ad ids h := by
  unfold mW
  refine List.map_congr_left (fun q hq => ?_)
  rw [ea q hq, mEnt_ad (eh q hq) (fun t ht => ea t (tgs_of hC q hq t ht)) (e4 q hq)]
/-! a walk of a constructor -/
/-- what it stands on -/
def cOk (M : mMs) (p : Program) (R : Room) (s : State) (m : MethodId) (args : Array Value) (meth : Method) (c : Code) (D : va_G) (cA : Nat → ClassId) (A : Nat → Prop) : Prop :=
  (p.tables.exec = Jvm.exec ∧ c.code = M.2.1 ∧ c.maxLocals = M.2.2.1 ∧ s.vm.findClass M.1.cls = some m.cls ∧ ∀ w ∈ mTbl, w.before args s = true) ∧ (meth.sig.returnType = none ∧ meth.locks = false ∧ meth.name = "<init>") ∧ va_K D vwCl (mTys cA) s ∧ ∀ q, s.heap.size ≤ q → A q
/-- the world: what isn't whole yet (op), and the rest -/
def cSt (D : va_G) (cA : Nat → ClassId) (A : Nat → Prop) (H0 : Heap) (op : va_W) (ad : Nat → Int → Nat) (ids : List (Nat × Int)) (h : mH) (H : Heap) (locs : List Loc) : Prop := va_P D vwCl (op ++ mW cA ad ids h) H ∧ va_D A (op ++ mW cA ad ids h) ∧ va_S A H0 H locs ∧ mClosed ids
abbrev cRoom (d mc ms : Nat) : Room := { frames := d, cells := mc, slots := ms, locals := 40 * d }
def cPre (D : va_G) (cA : Nat → ClassId) (ad : Nat → Int → Nat) (op : va_W) (ids : List (Nat × Int)) (sz : Nat) (h : mH) (U : State) : Prop :=
  U.heap.size = sz ∧ va_P D vwCl (op ++ mW cA ad ids h) U.heap ∧ va_D (fun _ => True) (op ++ mW cA ad ids h) ∧ mFx D cA ad (va_A (op ++ mW cA ad ids h) sz) U U.heap ∧ va_AO "RateOffice$Book" U
/-- behind it: the new cells N, with Ini; nothing else is touched -/
def cPost (D : va_G) (cA : Nat → ClassId) (ad : Nat → Int → Nat) (ids N : List (Nat × Int)) (r0 : Nat) (i0 : Int) (a : Nat) (h : mH) (Ini : mH → Prop) (A : Nat → Prop) : Array Value → State → Outcome → State → Prop := fun _ st o t =>
  ∃ (ad2 : Nat → Int → Nat) (h2 : mH), o = .returned none ∧ (∀ r i, (r, i) ∉ N → ad2 r i = ad r i ∧ h2 r i = h r i) ∧ ad2 r0 i0 = a ∧ Ini h2 ∧ va_P D vwCl (mW cA ad2 (ids ++ N) h2) t.heap ∧ va_D A (mW cA ad2 (ids ++ N) h2) ∧ va_F A st t
/-- a constructor's contract: the class ci with the fields dv as they are made -/
def CtOk (M : mMs) (r0 : Nat) (i0 : Int) (ci : Nat) (dv : List Value) (as : List mV) (N need : List (Nat × Int)) (Ini : mH → Prop) (mc ms : Nat) : Prop :=
  ∀ (l : Launch) (D : va_G) (cA : Nat → ClassId) (ad : Nat → Int → Nat) (ids : List (Nat × Int)) (sz a : Nat) (h : mH), mClosed ids → (∀ q ∈ N, q ∉ ids) → (∀ q ∈ need, q ∈ ids) → ((∀ j, (27, j) ∉ ids) ∨ r0 = 30) →
    Met l M.1 (mWs M) (cRoom M.2.2.2.2 mc ms) (va_Pc (.ref a :: as.map (mIv ad)) (cPre D cA ad [(a, .inr (ci, dv))] ids sz h)) (cPost D cA ad ids N r0 i0 a h Ini (va_A ((a, .inr (ci, dv)) :: mW cA ad ids h) sz)) mc ms (va_A ((a, .inr (ci, dv)) :: mW cA ad ids h) sz)
theorem mT4 {r n : Nat} (h : mT r = .inl (4, n)) : r = 27 := by
  unfold mT at h
  split at h
  all_goals first | rfl | (exfalso; injection h with h; injection h with h1 h2; omega) | cases h
def adU (ad : Nat → Int → Nat) (r : Nat) (i : Int) (q : Nat) : Nat → Int → Nat := fun r2 i2 => if r2 = r ∧ i2 = i then q else ad r2 i2
theorem adU_e {ad : Nat → Int → Nat} {r : Nat} {i : Int} {q : Nat} : adU ad r i q r i = q := by unfold adU; rw [if_pos ⟨rfl, rfl⟩]
theorem adU_o {ad : Nat → Int → Nat} {r r2 : Nat} {i i2 : Int} {q : Nat} (h : (r2, i2) ≠ (r, i)) : adU ad r i q r2 i2 = ad r2 i2 := by
  unfold adU
  rw [if_neg (fun z => h (by rw [z.1, z.2]))]
theorem rs_o {h : mH} {r r2 : Nat} {i i2 : Int} {f : Int → Int} (e : (r2, i2) ≠ (r, i)) : rs h r i f r2 i2 = h r2 i2 := by
  unfold rs
  rw [if_neg (fun z => e (by rw [z.1, z.2]))]
/-- old cells don't see a new one -/
theorem mW_new {cA : Nat → ClassId} {ad : Nat → Int → Nat} {h : mH} {ids : List (Nat × Int)} {r : Nat} {i : Int} {q : Nat} {f : Int → Int} (hC : mClosed ids) (hN : (r, i) ∉ ids) (h27 : ∀ j, (27, j) ∉ ids ∨ r ≠ 1) (hT : ∀ q ∈ ids, ∀ n, mT q.1 = .inl (4, n) → q.1 = 27) : mW cA (adU ad r i q) ids (rs h r i f) = mW cA ad ids h := by
  refine mW_congr hC (fun z hz => adU_o (fun e => hN (by rw [← e]; exact hz))) (fun z hz => rs_o (fun e => hN (by rw [← e]; exact hz))) (fun z hz n hn k hk => adU_o (fun e => ?_))
  have e27 := hT z hz n hn
  rcases h27 z.2 with w | w
  · exact w (by rw [← e27]; exact hz)
  · exact w (by injection e with e1 e2; exact e1.symm)
section CTOR
variable {p : Program} {l : Launch} {e : Env} {R : Room} {s : State} {m : MethodId} {args : Array Value} {below : List Frame} {meth : Method} {c : Code} {Q : State → Prop}
variable {M : mMs} {D : va_G} {cA : Nat → ClassId} {A : Nat → Prop} {ls : Array Slot}
theorem c_objI (O : cOk M p R s m args meth c D cA A) {pc idx a cells slots : Nat} {H : Heap} {locs : List Loc} (hls : ls.size = M.2.2.1) (hw : Cond.methodLink M.1.cls idx Lib.objectInit ∈ mTbl) (hw2 : Cond.instanceMethod Lib.objectInit ∈ mTbl) (hw3 : Cond.code Lib.objectInit ⟨#[0xb1]⟩ 1 none ∈ mTbl) (hR : 1 ≤ R.frames ∧ 12 ≤ R.locals) (hd : decode M.2.1 pc = .ok (.invokespecial idx, 3)) (k : W p l e R s m args below meth c H locs cells slots Q (F0 m (pc + 3) ls [])) : W p l e R s m args below meth c H locs cells slots Q (F0 m pc ls [.ref a]) := by
  refine W.objInit O.1.1 O.1.2.1 O.1.2.2.2.1 (O.1.2.2.2.2 _ hw) (O.1.2.2.2.2 _ hw2) (O.1.2.2.2.2 _ hw3) rfl (by show ls.size = _; rw [hls]; exact O.1.2.2.1.symm) rfl hd hR.1 (by show 2 * 0 + 0 + 12 ≤ R.locals; have := hR.2; omega) ?_
  exact W.eq (g2 := F0 m (pc + 3) ls []) rfl k
/-- a new row of numbers, and where it is put -/
theorem c_arr (O : cOk M p R s m args meth c D cA A) {pc idx ci k kx cells slots n r a : Nat} {i : Int} {q : vw_C} {fs : List Value} {op : va_W} {ad : Nat → Int → Nat} {ids : List (Nat × Int)} {h : mH} {H : Heap} {locs : List Loc} {atype : ArrayType} {ty : FieldType}
    (S : cSt D cA A s.heap ((a, .inr (ci, fs)) :: op) ad ids h H locs) (ht : newarray.typeOf atype = ty) (harr : Cond.arrayClass (newarray.typeOf atype) ∈ mTbl) (hkx : ∀ cA : Nat → ClassId, (mTys cA)[kx]? = some (cA kx, ty)) (hRA : ∀ (U : State) (c1 : ClassId), va_RA U c1 ty → U.vm.findClass ("[" ++ ty.toString) = some c1)
    (ha : ∀ (cI : ClassId) (ad : Nat → Int → Nat) (h : mH), h r i = (fun _ => 0) → vp_cell cI (mRow ad h r i kx n) = arrV cI n (fun _ => defaultValue ty)) (hr : mT r = .inl (kx, n)) (hN : (r, i) ∉ ids)
    (hn : ¬ (Int32.ofInt (n : Int)) < 0) (hn2 : (Int32.ofInt (n : Int)).toNatClampNeg = n) (hby : n * componentBytes ty ≤ 536870912) (hc : cells + 1 ≤ R.cells) (hs : slots + n ≤ R.slots) (hd1 : decode M.2.1 pc = .ok (.newarray atype, 2)) (hd2 : decode M.2.1 (pc + 2) = .ok (.putfield idx, 3))
    (hq : vwCl[ci]? = some q) (hk : k < q.2.2) (hfl : Cond.fieldLink M.1.cls idx (q.2.1 k).1 (q.2.1 k).2.1 (q.2.1 k).2.2.1 ∈ mTbl) (hfin : (q.2.1 k).2.2.2 = true) (hdecl : (q.2.1 k).1 = M.1.cls) {ty2 : FieldType} (hty2 : parseFieldDescriptor (q.2.1 k).2.2.1 = some ty2) (hfit : ∀ x : Nat, narrow ty2 (.ref x) = .ref x ∧ fits ty2 (.ref x) = true) (hlen : k < fs.length)
    (kk : ∀ (w : Nat) (H1 : Heap) (locs1 : List Loc), cSt D cA A s.heap ((a, .inr (ci, fs.set k (.ref w))) :: op) (adU ad r i w) (ids ++ [(r, i)]) (rs h r i (fun _ => 0)) H1 locs1 → W p l e R s m args below meth c H1 locs1 (cells + 1) (slots + n) Q (F0 m (pc + 5) ls [])) : W p l e R s m args below meth c H locs cells slots Q (F0 m pc ls [.int (Int32.ofInt (n : Int)), .ref a]) := by
  obtain ⟨hP, hD, hS, hC⟩ := S
  have hr1 : r ≠ 1 := fun z => by rw [z] at hr; cases hr
  refine va_newa (atype := atype) O.1.1 O.1.2.1 (O.1.2.2.2.2 _ harr) ht O.2.2.1 hP hD hS O.2.2.2 (a0 := mRow ad (rs h r i (fun _ => 0)) r i kx n) (fun cI => ha cI _ _ (rs_same _ _ _ _)) hn hn2 hby hc hs hd1 (fun w c1 H1 hK1 hP1 hD1 hS1 => ?_)
  have ec : c1 = cA kx := by
    have k1 := hRA s (cA kx) (O.2.2.1.2 kx _ (hkx cA)).2
    have k2 := hRA s c1 (hK1.2 5 _ rfl).2
    rw [k1] at k2
    exact (Option.some.inj k2).symm
  subst ec
  obtain ⟨ty0, hty⟩ := mTyk ci q hq
  refine va_putF (D := D) (v := .ref w) O.1.1 O.1.2.1 O.1.2.2.2.2 (mLay ci q hq) ty0 hty (mNm ci q hq) O.1.2.2.2.1 O.2.2.1 hP1 hD1 hS1 0 rfl hq k hk (O.1.2.2.2.2 _ hfl) (fun _ z => z) hfin O.2.1.2.2 hdecl hty2 (hfit w).1 (hfit w).2 hlen hd2 (fun H2 locs2 hP2 hD2 hS2 => ?_)
  refine kk w H2 locs2 ?_
  have ew : ((a, .inr (ci, fs.set k (.ref w))) :: op) ++ mW cA (adU ad r i w) (ids ++ [(r, i)]) (rs h r i (fun _ => 0)) = ((((a, Sum.inr (ci, fs)) :: op) ++ mW cA ad ids h) ++ [(w, Sum.inl (cA kx, mRow ad (rs h r i (fun _ => 0)) r i kx n))]).set 0 (a, .inr (ci, fs.set k (.ref w))) := by
    rw [mW_app, mW_new hC hN (fun j => Or.inr hr1) (fun z _ n hz => mT4 hz)]
    have e1 : mW cA (adU ad r i w) [(r, i)] (rs h r i (fun _ => 0)) = [(w, Sum.inl (cA kx, mRow ad (rs h r i (fun _ => 0)) r i kx n))] := by
      show [(adU ad r i w r i, mEnt cA (adU ad r i w) (rs h r i (fun _ => 0)) (r, i))] = _
      rw [adU_e, mEnt_inl hr]
      have hk4 : kx ≠ 4 := by
        intro z
        subst z
        have := hkx cA
        have e4 : (mTys cA)[4]? = some (cA 4, .object "RateOffice$Book") := rfl
        rw [e4] at this
        injection this with this
        injection this with _ this
        cases atype <;> cases (this.trans ht.symm)
      have em : ∀ ad1 ad2 : Nat → Int → Nat, mRow ad1 (rs h r i (fun _ => 0)) r i kx n = mRow ad2 (rs h r i (fun _ => 0)) r i kx n := by
        intro ad1 ad2
        unfold mRow
        match kx, hk4 with
        | 0, _ => rfl
        | 1, _ => rfl
        | 2, _ => rfl
        | 3, _ => rfl
        | 4, hk4 => exact absurd rfl hk4
        | kx + 5, _ => rfl
      rw [em (adU ad r i w) ad]
    rw [e1]
    simp
  refine ⟨by rw [ew]; exact hP2, by rw [ew]; exact hD2, hS2, closed_app hC (fun z hz t ht2 => ?_)⟩
  rw [List.mem_singleton.mp hz] at ht2
  exfalso
  unfold tgs at ht2
  have e9 : (mT (r, i).1) = .inl (kx, n) := hr
  rw [e9] at ht2
  have ht3 : t ∈ (if kx = 4 then (List.range n).map (fun (k : Nat) => ((1, 4 + (k : Int)) : Nat × Int)) else []) := ht2
  by_cases z4 : kx = 4
  · subst z4
    have := hkx cA
    have e4 : (mTys cA)[4]? = some (cA 4, .object "RateOffice$Book") := rfl
    rw [e4] at this
    injection this with this
    injection this with _ this
    cases atype <;> cases (this.trans ht.symm)
  · rw [if_neg z4] at ht3
    cases ht3
end CTOR
