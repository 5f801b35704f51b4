/-! the law's start: its objects, its loop -/
def lOk (M : mMs) (p : Program) (R : Room) (s : State) (m : MethodId) (args : Array Value) (meth : Method) (c : Code) (D : va_G) (cA : Nat → ClassId) (A : Nat → Prop) : Prop :=
  (p.tables.exec = Jvm.exec ∧ c.code = M.2.1 ∧ c.maxLocals = M.2.2.1 ∧ s.vm.findClass M.1.cls = some m.cls ∧ ∀ w ∈ mTbl, w.before args s = true) ∧ meth.locks = false ∧ va_K D vwCl (mTys cA) s ∧ ∀ q, s.heap.size ≤ q → A q
section LSTART
variable {p : Program} {l : Launch} {e : Env} {R : Room} {s : State} {m : MethodId} {args : Array Value} {below : List Frame} {meth : Method} {c : Code} {Q : State → Prop}
variable {M : mMs} {D : va_G} {cA : Nat → ClassId} {A : Nat → Prop} {ls : Array Slot}
theorem lz_new (O : lOk M p R s m args meth c D cA A) {pc idx ci cells slots : Nat} {q : vw_C} {dv : List Value} {op : va_W} {ad : Nat → Int → Nat} {ids : List (Nat × Int)} {h : mH} {H : Heap} {locs : List Loc} {rest : List Value} {ty : Nat → FieldType} (S : cSt D cA A s.heap op ad ids h H locs) (hq : vwCl[ci]? = some q) (hty : ∀ k, k < q.2.2 → parseFieldDescriptor (q.2.1 k).2.2.1 = some (ty k)) (hcl : Cond.classLink M.1.cls idx q.1 ∈ mTbl) (hin : Cond.instantiable q.1 q.2.2 ∈ mTbl) (hini : Cond.initialized q.1 ∈ mTbl) (hdv : ∀ j, j < q.2.2 → defaultValue (ty j) = vp_V dv j) (hc : cells + 1 ≤ R.cells) (hs : slots + q.2.2 ≤ R.slots) (hd : decode M.2.1 pc = .ok (.new idx, 3)) (hd2 : decode M.2.1 (pc + 3) = .ok (.dup, 1))
    (kk : ∀ (w : Nat) (H1 : Heap), cSt D cA A s.heap ((w, .inr (ci, dv)) :: op) ad ids h H1 locs → W p l e R s m args below meth c H1 locs (cells + 1) (slots + q.2.2) Q (F0 m (pc + 4) ls (.ref w :: .ref w :: rest))) : W p l e R s m args below meth c H locs cells slots Q (F0 m pc ls rest) := by
  obtain ⟨hP, hD, hS, hC⟩ := S
  refine va_new (ci := ci) (fs := dv) (C := q.1) (T := q.2.1) (N := q.2.2) O.1.1 O.1.2.1 O.1.2.2.2.2 (mLay ci q hq) ty hty O.1.2.2.2.1 (O.1.2.2.2.2 _ hcl) (O.1.2.2.2.2 _ hin) (O.1.2.2.2.2 _ hini) O.2.2.1 hP hD hS O.2.2.2 hq hdv hc hs hd (fun w H1 hP1 hD1 hS1 => ?_)
  refine lv_dup O.1.1 O.1.2.1 hd2 rfl ?_
  have hp : ((op ++ mW cA ad ids h) ++ [(w, Sum.inr (ci, dv))]).Perm (((w, Sum.inr (ci, dv)) :: op) ++ mW cA ad ids h) := List.perm_append_singleton (w, Sum.inr (ci, dv)) (op ++ mW cA ad ids h)
  exact kk w H1 ⟨wP_perm hp hP1, wD_perm hp hD1, hS1, hC⟩
theorem lz_run (O : lOk M p R s m args meth c D cA A) {pc w r0 ci2 mc ms cells slots : Nat} {i0 : Int} {dv st0 rest : List Value} {op : va_W} {ad : Nat → Int → Nat} {ids N : List (Nat × Int)} {h : mH} {Ini : mH → Prop} {H : Heap} {locs : List Loc} {av : Array Value} (S : cSt D cA A s.heap ((w, .inr (ci2, dv)) :: op) ad ids h H locs) (hNc : ∀ q ∈ N, ∀ t ∈ tgs q.1 q.2, t ∈ ids ++ N)
    (hr : va_Run p l e R s m args below meth c H locs cells slots mc ms (F0 m pc ls st0) rest (cPost D cA ad ids N r0 i0 w h Ini (va_A ((w, .inr (ci2, dv)) :: mW cA ad ids h) H.size) av) (va_A ((w, .inr (ci2, dv)) :: mW cA ad ids h) H.size))
    (kk : ∀ (ad2 : Nat → Int → Nat) (h2 : mH) (H1 : Heap) (locs1 : List Loc), (∀ r i, (r, i) ∉ N → ad2 r i = ad r i ∧ h2 r i = h r i) → ad2 r0 i0 = w → Ini h2 → cSt D cA A s.heap op ad2 (ids ++ N) h2 H1 locs1 → W p l e R s m args below meth c H1 locs1 (cells + mc) (slots + ms) Q (F0 m (pc + 3) ls rest)) : W p l e R s m args below meth c H locs cells slots Q (F0 m pc ls st0) := by
  obtain ⟨hP, hD, hS, hC⟩ := S
  intro T hT X
  obtain ⟨v, s0, t, T', L', h0, X', hL', e1, e2, ⟨ad2, h2, hv, ho, ha, hi, hP2, hD2, hF2⟩, go⟩ := hr T hT X
  cases hv
  have hD' := wD_iff.mp hD
  have hfr : ∀ q, va_A ((w, .inr (ci2, dv)) :: mW cA ad ids h) H.size q → A q := by
    rintro q (⟨k, x, hk⟩ | z)
    · have hm := List.mem_of_getElem? hk
      refine hD'.2 (q, x) ?_
      rcases List.mem_cons.mp hm with z | z
      · rw [z]; exact List.mem_cons_self
      · exact List.mem_cons_of_mem _ (List.mem_append_right _ z)
    · exact O.2.2.2 q (Nat.le_trans hS.1 z)
  have hsz : H.size ≤ t.heap.size := by rw [← h0]; exact hF2.1
  have hS' : va_S A s.heap T'.heap (locs ++ L') := by
    refine ⟨by rw [e1]; exact Nat.le_trans hS.1 hsz, fun q h1 h3 => ?_, fun q hq => ?_⟩
    · rw [e1, hF2.2 q (by rw [h0]; exact Nat.lt_of_lt_of_le h1 hS.1) (fun z => h3 (hfr q z)), h0]
      exact hS.2.1 q h1 h3
    · rcases List.mem_append.mp hq with z | z
      · exact hS.2.2 q z
      · exact hfr _ (hL' q z)
  have hnd := hD'.1
  have hmap : (((w, Sum.inr (ci2, dv)) :: op) ++ mW cA ad ids h).map (fun q => q.1) = w :: (op.map (fun q => q.1) ++ (mW cA ad ids h).map (fun q => q.1)) := by simp
  rw [hmap] at hnd
  have hnw := (List.nodup_cons.mp hnd).1
  obtain ⟨hn1, hn2, hn3⟩ := List.nodup_append.mp (List.nodup_cons.mp hnd).2
  have hlt : ∀ q ∈ op, q.1 < H.size := fun q hq => by
    obtain ⟨k, hk⟩ := List.getElem?_of_mem (show q ∈ ((w, Sum.inr (ci2, dv)) :: op) ++ mW cA ad ids h from List.mem_append_left _ (List.mem_cons_of_mem _ hq))
    exact (hP k q hk).lt
  have hout : ∀ q ∈ op, ¬ va_A ((w, .inr (ci2, dv)) :: mW cA ad ids h) H.size q.1 := by
    rintro q hq (⟨k, x, hk⟩ | z)
    · have hm := List.mem_of_getElem? hk
      rcases List.mem_cons.mp hm with z | z
      · have e9 : q.1 = w := congrArg Prod.fst z
        exact hnw (by rw [← e9]; exact List.mem_append_left _ (List.mem_map_of_mem hq))
      · exact hn3 q.1 (List.mem_map_of_mem hq) q.1 (List.mem_map.mpr ⟨(q.1, x), z, rfl⟩) rfl
    · exact absurd (hlt q hq) (by omega)
  have hPop : va_P D vwCl op T'.heap := by
    have h9 : va_P D vwCl op H := wP_mem.mpr (fun q hq => wP_mem.mp hP q (List.mem_append_left _ (List.mem_cons_of_mem _ hq)))
    refine h9.kept (fun k q hk => ?_)
    have hm := List.mem_of_getElem? hk
    rw [e1, hF2.2 q.1 (by rw [h0]; exact hlt q hm) (hout q hm), h0]
  have hD2' := wD_iff.mp hD2
  have hDn : va_D A (op ++ mW cA ad2 (ids ++ N) h2) := by
    refine wD_iff.mpr ⟨?_, fun q hq => ?_⟩
    · rw [List.map_append]
      refine List.nodup_append.mpr ⟨hn1, hD2'.1, fun x hx y hy exy => ?_⟩
      obtain ⟨q, hq, rfl⟩ := List.mem_map.mp hx
      obtain ⟨q2, hq2, rfl⟩ := List.mem_map.mp hy
      exact hout q hq (by rw [exy]; exact hD2'.2 q2 hq2)
    · rcases List.mem_append.mp hq with z | z
      · exact hD'.2 q (List.mem_append_left _ (List.mem_cons_of_mem _ z))
      · exact hfr _ (hD2'.2 q z)
  obtain ⟨t2, a1, b1⟩ := kk ad2 h2 T'.heap (locs ++ L') ho ha hi ⟨hPop.app (by rw [e1]; exact hP2), hDn, hS', closed_app hC hNc⟩ T' rfl X'
  exact ⟨t2, go t2 a1, b1⟩
theorem lz_pre (O : lOk M p R s m args meth c D cA A) {w ci2 : Nat} {dv : List Value} {op : va_W} {ad : Nat → Int → Nat} {ids : List (Nat × Int)} {h : mH} {H : Heap} {locs : List Loc} (S : cSt D cA A s.heap ((w, .inr (ci2, dv)) :: op) ad ids h H locs) (FX : mFx D cA ad A s s.heap) (AO : va_AO "RateOffice$Book" s) {U : State} (hU : U.heap = H) (hW : s.WarmedH U.vm) : cPre D cA ad [(w, .inr (ci2, dv))] ids H.size h U := by
  obtain ⟨hP, hD, hS, hC⟩ := S
  obtain ⟨f1, f2, f3⟩ := FX
  have hsub : ∀ q ∈ [(w, Sum.inr (ci2, dv))] ++ mW cA ad ids h, q ∈ ((w, Sum.inr (ci2, dv)) :: op) ++ mW cA ad ids h := by
    intro q hq
    rcases List.mem_append.mp hq with z | z
    · rw [List.mem_singleton.mp z]; exact List.mem_cons_self
    · exact List.mem_append_right _ z
  have hD' := wD_iff.mp hD
  have hDs : va_D (fun _ => True) ([(w, Sum.inr (ci2, dv))] ++ mW cA ad ids h) := by
    refine wD_iff.mpr ⟨?_, fun _ _ => trivial⟩
    refine List.Nodup.sublist ?_ hD'.1
    refine List.Sublist.map _ ?_
    exact List.Sublist.append (List.Sublist.cons_cons _ (List.nil_sublist _)) (List.Sublist.refl _)
  refine ⟨by rw [hU], by rw [hU]; exact wP_mem.mpr (fun q hq => wP_mem.mp hP q (hsub q hq)), hDs, ⟨f1.moved hW.alike, f2.warm hW, ?_⟩, AO.moved hW.alike⟩
  rw [hU]
  refine ((f3.kept hS.2.1).narrow ?_).warm hW
  rintro q (⟨k, x, hk⟩ | z)
  · exact hD'.2 (q, x) (hsub _ (List.mem_of_getElem? hk))
  · exact O.2.2.2 q (Nat.le_trans hS.1 z)
theorem lz_init (O : lOk M p R s m args meth c D cA A) {M2 : mMs} {pc idx w r0 ci2 mc ms cells slots n : Nat} {i0 : Int} {dv rest : List Value} {as : List mV} {op : va_W} {ad : Nat → Int → Nat} {ids N need : List (Nat × Int)} {h : mH} {Ini : mH → Prop} {H : Heap} {locs : List Loc} (S : cSt D cA A s.heap ((w, .inr (ci2, dv)) :: op) ad ids h H locs) (FX : mFx D cA ad A s s.heap) (AO : va_AO "RateOffice$Book" s) (hls : ls.size = M.2.2.1)
    (ct : CtOk M2 r0 i0 ci2 dv as N need Ini mc ms) (hm : mCt M2 n) (hl : Cond.methodLink M.1.cls idx M2.1 ∈ mTbl) (hn : as.length = n) (hN : ∀ q ∈ N, q ∉ ids) (hneed : ∀ q ∈ need, q ∈ ids) (h27 : (∀ j, (27, j) ∉ ids) ∨ r0 = 30) (hNc : ∀ q ∈ N, ∀ t ∈ tgs q.1 q.2, t ∈ ids ++ N) (hR : M2.2.2.2.2 + 1 ≤ R.frames ∧ 40 * M2.2.2.2.2 + 40 ≤ R.locals) (hc : cells + mc ≤ R.cells ∧ slots + ms ≤ R.slots) (hst : (rest.map fun v => v.category).sum ≤ 8) (hd : decode M.2.1 pc = .ok (.invokespecial idx, 3))
    (kk : ∀ (ad2 : Nat → Int → Nat) (h2 : mH) (H1 : Heap) (locs1 : List Loc), (∀ r i, (r, i) ∉ N → ad2 r i = ad r i ∧ h2 r i = h r i) → ad2 r0 i0 = w → Ini h2 → cSt D cA A s.heap op ad2 (ids ++ N) h2 H1 locs1 → W p l e R s m args below meth c H1 locs1 (cells + mc) (slots + ms) Q (F0 m (pc + 3) ls rest)) : W p l e R s m args below meth c H locs cells slots Q (F0 m pc ls ((as.map (mIv ad)).reverse ++ .ref w :: rest)) := by
  obtain ⟨w1, w2, w3, hret, hname, hx, hnl⟩ := hm
  have hgood : GoodIn mTbl (mWs M2) := mTbl_good (by
    intro z hz
    rcases List.mem_cons.mp hz with rfl | hz
    · rw [hret]; exact w3
    · exact hz)
  refine lz_run O S hNc (va_runI (As := as.map (mIv ad)) (rest := rest) (b := w) O.1 (ct l D cA ad ids H.size w h S.2.2.2 hN hneed h27) (cwI (own := M.1.cls) (index := idx) n O.1.2.2.2.2 hgood (bytes := M2.2.1) (maxL := M2.2.2.1) (ws' := mTbl) (by unfold mWs; rw [hret]) rfl rfl (O.1.2.2.2.2 _ w2) (O.1.2.2.2.2 _ hl) (O.1.2.2.2.2 _ w1) hname hx ⟨hR.1, ?_⟩) ⟨c_blind, fun U hU hW => ⟨rfl, lz_pre O S FX AO hU hW⟩⟩ rfl (by rw [List.length_map]; exact hn) hls rfl (lv_room hst) hd hc) kk
  have := hR.2
  show 8 + (M2.2.2.1 + 11) + 40 * M2.2.2.2.2 ≤ _
  omega
/-- the new row of one long -/
theorem lz_out (O : lOk M p R s m args meth c D cA A) {pc cells slots : Nat} {ad : Nat → Int → Nat} {ids : List (Nat × Int)} {h : mH} {H : Heap} {locs : List Loc} (S : cSt D cA A s.heap [] ad ids h H locs) (hN : ((46, 0) : Nat × Int) ∉ ids) (hc : cells + 1 ≤ R.cells) (hs : slots + 1 ≤ R.slots) (hd : decode M.2.1 pc = .ok (.newarray .long, 2))
    (kk : ∀ (w : Nat) (H1 : Heap), cSt D cA A s.heap [] (adU ad 46 0 w) (ids ++ [(46, 0)]) (rs h 46 0 (fun _ => 0)) H1 locs → W p l e R s m args below meth c H1 locs (cells + 1) (slots + 1) Q (F0 m (pc + 2) ls [.ref w])) : W p l e R s m args below meth c H locs cells slots Q (F0 m pc ls [.int 1]) := by
  obtain ⟨hP, hD, hS, hC⟩ := S
  rw [List.nil_append] at hP hD
  refine va_newa (atype := .long) (ty := .long) O.1.1 O.1.2.1 (O.1.2.2.2.2 _ ka_long) rfl O.2.2.1 hP hD hS O.2.2.2 (N' := 1) (a0 := mRow ad (rs h 46 0 (fun _ => 0)) 46 0 2 1) (fun cI => arr_l cI _ _ 46 0 1 (rs_same _ _ _ _)) (by decide) (by decide) (Nat.le_of_ble_eq_true rfl) hc hs hd (fun w c1 H1 hK1 hP1 hD1 hS1 => ?_)
  have ec : c1 = cA 2 := by
    have k1 : s.vm.findClass ("[" ++ FieldType.long.toString) = some (cA 2) := (O.2.2.1.2 2 _ rfl).2
    have k2 : s.vm.findClass ("[" ++ FieldType.long.toString) = some c1 := (hK1.2 5 _ rfl).2
    rw [k1] at k2
    exact (Option.some.inj k2).symm
  subst ec
  refine kk w H1 ?_
  have ew : [] ++ mW cA (adU ad 46 0 w) (ids ++ [(46, 0)]) (rs h 46 0 (fun _ => 0)) = mW cA ad ids h ++ [(w, Sum.inl (cA 2, mRow ad (rs h 46 0 (fun _ => 0)) 46 0 2 1))] := by
    rw [List.nil_append, mW_app, mW_new hC hN (fun j => Or.inr (by decide)) (fun z _ n hz => mT4 hz)]
    have e1 : mW cA (adU ad 46 0 w) [(46, 0)] (rs h 46 0 (fun _ => 0)) = [(w, Sum.inl (cA 2, mRow ad (rs h 46 0 (fun _ => 0)) 46 0 2 1))] := by
      show [(adU ad 46 0 w 46 0, mEnt cA (adU ad 46 0 w) (rs h 46 0 (fun _ => 0)) (46, 0))] = _
      rw [adU_e]
      rfl
    rw [e1]
  refine ⟨by rw [ew]; exact hP1, by rw [ew]; exact hD1, hS1, closed_app hC (fun z hz t ht2 => ?_)⟩
  rw [List.mem_singleton.mp hz] at ht2
  cases ht2
end LSTART
theorem ml_L_17 : Cond.methodLink RL 17 yX6_init ∈ mTbl := mTbl_of 95 (by decide +kernel) rfl
theorem ml_L_20 : Cond.methodLink RL 20 yX7_init ∈ mTbl := mTbl_of 1162 (by decide +kernel) rfl

theorem dLw_0 : ∀ q ∈ ([(0, .new 8, 3, 3), (3, .dup, 1, 4), (4, .invokespecial 17, 3, 7), (7, .astore_n 1, 1, 8), (8, .new 18, 3, 11), (11, .dup, 1, 12), (12, .invokespecial 20, 3, 15), (15, .astore_n 2, 1, 16), (16, .iconst 1, 1, 17), (17, .newarray .long, 2, 19), (19, .astore_n 3, 1, 20), (20, .iconst 0, 1, 21), (21, .istore 4, 2, 23)] : List (Nat × Instr × Nat × Nat)), mDq ML_law q := by decide +kernel
theorem st_clO : ∀ q ∈ nO, ∀ t ∈ tgs q.1 q.2, t ∈ nO := by decide +kernel
theorem st_clM : ∀ q ∈ nM, ∀ t ∈ tgs q.1 q.2, t ∈ nM := by decide +kernel
theorem st_lo : ∀ q ∈ nO ++ nM, q.1 < 50 := by decide +kernel
/-- from the entry, for every script of at most 3072 ints, the law comes to its end with true -/
theorem whole_start {p : Program} {e : Env} {s : State} {m : MethodId} {below : List Frame} {meth : Method} {c : Code} (l : Launch) (hflags : l.flags = flags0) {b L : Nat} {xs : Nat → Int32} (hL : L ≤ 3072) (C0 : lw_At p s m meth c b L xs) : W p l e room_1 s m #[Value.ref b] below meth c s.heap [] 0 0 (lw_Z below #[Value.ref b] s) (entryFrame m ([Value.ref b] : List Value).toArray 7) := by
  obtain ⟨D, cA, ad, FX, hX, AO, had⟩ := st_all C0
  obtain ⟨hx, hb, hr, hml, hown, hts, hscr, hbl, hlk, hgv⟩ := C0
  have htr : l.stackTraces = false := by
    unfold Launch.stackTraces
    rw [hflags]
    decide +kernel
  have O : lOk ML_law p room_1 s m #[Value.ref b] meth c D cA (fun q => s.heap.size ≤ q) := ⟨⟨hx, hb, hml, hown, fun w hw => hts w (List.mem_filter.mp hw).1⟩, hlk, FX.1, fun q h => h⟩
  have hl := lv_entry [Value.ref b] (n := 7) (Nat.le_of_ble_eq_true rfl)
  rw [lg_entry_eq]
  generalize (lg_sl [Value.ref b] ++ List.replicate (7 - (lg_sl [Value.ref b]).length) Slot.unset).toArray = ls at hl ⊢
  have hl : lv_has ls 7 [(0, Value.ref b)] := hl
  have S0 : cSt D cA (fun q => s.heap.size ≤ q) s.heap [] ad [] (fun _ _ _ => 0) s.heap [] := ⟨fun k q hk => (by cases hk), ⟨fun i j x y hi => (by cases hi), fun k q hk => (by cases hk)⟩, va_S.rf, closed_of (fun q hq => (by cases hq))⟩
  refine lz_new O (ci := 6) (ty := tyX6) (dv := [.null, .int 0, .int 0, .int 0, .null, .null, .null, .null, .null, .null, .null, .null, .int 0, .null, .int 0, .int 0]) S0 rfl tyX6_ok klRL_8 ki2_X6 ki_X6 (fun j hj => by have hj : j < 16 := hj; rcases (show j = 0 ∨ j = 1 ∨ j = 2 ∨ j = 3 ∨ j = 4 ∨ j = 5 ∨ j = 6 ∨ j = 7 ∨ j = 8 ∨ j = 9 ∨ j = 10 ∨ j = 11 ∨ j = 12 ∨ j = 13 ∨ j = 14 ∨ j = 15 by omega) with rfl | rfl | rfl | rfl | rfl | rfl | rfl | rfl | rfl | rfl | rfl | rfl | rfl | rfl | rfl | rfl <;> rfl) (Nat.le_of_ble_eq_true rfl) (Nat.le_of_ble_eq_true rfl) (dT dLw_0 0 rfl).1 (dT dLw_0 1 rfl).1 (fun w1 H1 S1 => ?_)
  refine lz_init O (as := []) S1 FX AO hl.1 ct_office mc_6 ml_L_17 rfl (fun q hq z => by cases z) (fun q hq => by cases hq) (Or.inl (fun j z => by cases z)) (fun q hq t ht => List.mem_append_right _ (st_clO q hq t ht)) ⟨by decide, by decide⟩ ⟨Nat.le_of_ble_eq_true rfl, Nat.le_of_ble_eq_true rfl⟩ (Nat.le_of_ble_eq_true rfl) (dT dLw_0 2 rfl).1 (fun ad1 h1 HA lA hoA haA hiA SA => ?_)
  refine lv_astore_n O.1.1 O.1.2.1 (i := 1) (dT dLw_0 3 rfl).1 rfl hl (by decide) rfl (fun ls1 hl1 => ?_)
  have FX1 : mFx D cA ad1 (fun q => s.heap.size ≤ q) s s.heap := mFx_ad (fun r i hr => (hoA r i (fun z => absurd (st_lo _ (List.mem_append_left _ z)) (Nat.not_lt.mpr hr))).1) FX
  refine lz_new O (ci := 7) (ty := tyX7) (dv := [.int 0, .null, .int 0, .null, .null, .null, .null, .null, .null, .null, .null, .null, .int 0, .int 0, .int 0, .int 0, .int 0, .int 0, .int 0, .int 0, .int 0, .int 0, .null, .null, .null, .null, .int 0, .int 0, .null, .int 0]) SA rfl tyX7_ok klRL_18 ki2_X7 ki_X7 (fun j hj => by have hj : j < 30 := hj; rcases (show j = 0 ∨ j = 1 ∨ j = 2 ∨ j = 3 ∨ j = 4 ∨ j = 5 ∨ j = 6 ∨ j = 7 ∨ j = 8 ∨ j = 9 ∨ j = 10 ∨ j = 11 ∨ j = 12 ∨ j = 13 ∨ j = 14 ∨ j = 15 ∨ j = 16 ∨ j = 17 ∨ j = 18 ∨ j = 19 ∨ j = 20 ∨ j = 21 ∨ j = 22 ∨ j = 23 ∨ j = 24 ∨ j = 25 ∨ j = 26 ∨ j = 27 ∨ j = 28 ∨ j = 29 by omega) with rfl | rfl | rfl | rfl | rfl | rfl | rfl | rfl | rfl | rfl | rfl | rfl | rfl | rfl | rfl | rfl | rfl | rfl | rfl | rfl | rfl | rfl | rfl | rfl | rfl | rfl | rfl | rfl | rfl | rfl <;> rfl) (Nat.le_of_ble_eq_true rfl) (Nat.le_of_ble_eq_true rfl) (dT dLw_0 4 rfl).1 (dT dLw_0 5 rfl).1 (fun w2 H2 S2 => ?_)
  refine lz_init O (as := []) S2 FX1 AO hl1.1 ct_model mc_7 ml_L_20 rfl (by decide +kernel) (fun q hq => by cases hq) (Or.inr rfl) (fun q hq t ht => List.mem_append_right _ (st_clM q hq t ht)) ⟨by decide, by decide⟩ ⟨Nat.le_of_ble_eq_true rfl, Nat.le_of_ble_eq_true rfl⟩ (Nat.le_of_ble_eq_true rfl) (dT dLw_0 6 rfl).1 (fun ad2 h2 HB lB hoB haB hiB SB => ?_)
  refine lv_astore_n O.1.1 O.1.2.1 (i := 2) (dT dLw_0 7 rfl).1 rfl hl1 (by decide) rfl (fun ls2 hl2 => ?_)
  refine lv_iconst O.1.1 O.1.2.1 (v := 1) (dT dLw_0 8 rfl).1 (by decide) ?_
  refine lz_out O SB (by decide +kernel) (Nat.le_of_ble_eq_true rfl) (Nat.le_of_ble_eq_true rfl) (dT dLw_0 9 rfl).1 (fun w3 H3 S3 => ?_)
  refine lv_astore_n O.1.1 O.1.2.1 (i := 3) (dT dLw_0 10 rfl).1 rfl hl2 (by decide) rfl (fun ls3 hl3 => ?_)
  refine lv_iconst O.1.1 O.1.2.1 (v := 0) (dT dLw_0 11 rfl).1 (by decide) ?_
  refine lv_istore O.1.1 O.1.2.1 (i := 4) (dT dLw_0 12 rfl).1 hl3 (by decide) rfl (fun ls4 hl4 => ?_)
  have hl4 : lv_has ls4 7 [(4, .int 0), (3, .ref w3), (2, .ref w2), (1, .ref w1), (0, .ref b)] := hl4
  have g25 : adU ad2 46 0 w3 25 0 = w1 := by rw [adU_o (ne_r (by decide)), (hoB 25 0 (by decide +kernel)).1]; exact haA
  have g30 : adU ad2 46 0 w3 30 0 = w2 := by rw [adU_o (ne_r (by decide))]; exact haB
  have g46 : adU ad2 46 0 w3 46 0 = w3 := adU_e
  have g70 : adU ad2 46 0 w3 70 0 = b := by rw [adU_o (ne_r (by decide)), (hoB 70 0 (by decide +kernel)).1, (hoA 70 0 (by decide +kernel)).1]; exact had
  have hC3 : CG (rs h2 46 0 (fun _ => 0)) sg0 := hiA.lo (fun r hr i => by rw [rs_o (ne_r (by omega)), (hoB r i (fun z => absurd ((by decide +kernel : ∀ q ∈ nM, 30 ≤ q.1) _ z) (Nat.not_le.mpr hr))).2])
  have hR3 : RG (rs h2 46 0 (fun _ => 0)) sg0 := hiB.fr (fun r hr => rs_o (ne_r (by omega))) (fun k _ => by rw [rs_o (ne_r (by decide))])
  have FX3 : mFx D cA (adU ad2 46 0 w3) (fun q => s.heap.size ≤ q) s s.heap := mFx_ad (fun r i hr => by rw [adU_o (ne_r (by omega)), (hoB r i (fun z => absurd (st_lo _ (List.mem_append_right _ z)) (Nat.not_lt.mpr hr))).1]) FX1
  obtain ⟨hP3, hD3, hS3, hK3⟩ := S3
  rw [List.nil_append] at hP3 hD3
  refine W.widen (k := cB) (n := sB) (Nat.le_of_ble_eq_true rfl) (Nat.le_of_ble_eq_true rfl) ?_
  refine l_loop (xs := xs) hL 513 0 rfl (rs h2 46 0 (fun _ => 0)) sg0 hC3 hR3 ((p, l, e, room_1, s), (m, #[Value.ref b], below, meth, c), (D, cA, adU ad2 46 0 w3, [] ++ nO ++ nM ++ [(46, 0)]), (fun q => s.heap.size ≤ q, cB, sB, lw_Z below #[Value.ref b] s)) ⟨⟨rfl, rfl, ?_, fun q h => h⟩, ⟨rfl, rfl⟩, htr, hX, ?_, ?_⟩ ⟨O.1, ⟨hr, hlk⟩, FX3, hK3, fun h9 => mD_any hD3 h9, fun q h => h, ⟨Nat.le_of_ble_eq_true rfl, Nat.le_of_ble_eq_true rfl, Nat.le_of_ble_eq_true rfl, Nat.le_of_ble_eq_true rfl⟩⟩ H3 lB ls4 hP3 hS3 ⟨hl4.1, hl4.2.1, fun i v hi hu => ?_⟩ ?_ (fun _ z => by cases z)
  · show #[Value.ref b] = #[Value.ref (adU ad2 46 0 w3 70 0)]
    rw [g70]
  · show va_X (adU ad2 46 0 w3 70 0) L xs s s.heap
    rw [g70]
    exact hscr
  · show adU ad2 46 0 w3 70 0 < s.heap.size
    rw [g70]
    exact hbl
  · show ls4[i]? = some (.val (mIv (adU ad2 46 0 w3) v))
    match i with
    | 0 =>
      cases hi
      show ls4[0]? = some (.val (.ref (adU ad2 46 0 w3 70 0)))
      rw [g70]; exact lv_at hl4 4 rfl
    | 1 =>
      cases hi
      show ls4[1]? = some (.val (.ref (adU ad2 46 0 w3 25 0)))
      rw [g25]; exact lv_at hl4 3 rfl
    | 2 =>
      cases hi
      show ls4[2]? = some (.val (.ref (adU ad2 46 0 w3 30 0)))
      rw [g30]; exact lv_at hl4 2 rfl
    | 3 =>
      cases hi
      show ls4[3]? = some (.val (.ref (adU ad2 46 0 w3 46 0)))
      rw [g46]; exact lv_at hl4 1 rfl
    | 4 =>
      cases hi
      exact lv_at hl4 0 rfl
    | 5 => exact absurd (Option.some.inj hi).symm hu
    | 6 => exact absurd (Option.some.inj hi).symm hu
    | k + 7 => cases hi
  · refine mVs.cons (fun _ z => absurd z (by decide)) (mVs.cons (fun _ _ => ?_) (mVs.cons (fun _ _ => ?_) (mVs.cons (fun _ _ => ?_) (mVs.cons trivial (mVs.cons (fun z => absurd z (by decide)) (mVs.cons (fun z => absurd z (by decide)) (fun _ z => by cases z)))))))
    · show ((25, 0) : Nat × Int) ∈ [] ++ nO ++ nM ++ [(46, 0)]
      decide +kernel
    · show ((30, 0) : Nat × Int) ∈ [] ++ nO ++ nM ++ [(46, 0)]
      decide +kernel
    · show ((46, 0) : Nat × Int) ∈ [] ++ nO ++ nM ++ [(46, 0)]
      decide +kernel
