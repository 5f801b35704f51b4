/-! constructors: objects within objects; the end -/
theorem mStr_ad {ad ad2 : Nat → Int → Nat} {A : Nat → Prop} {U : State} {H : Heap} (e : ∀ r i, 50 ≤ r → ad2 r i = ad r i) (h : mStr ad A U H) : mStr ad2 A U H := by
  unfold mStr
  have e1 : (fun i : Nat => ad2 60 (i : Int)) = (fun i : Nat => ad 60 (i : Int)) := funext (fun i => e 60 _ (by decide))
  have e2 : (fun i : Nat => ad2 61 (i : Int)) = (fun i : Nat => ad 61 (i : Int)) := funext (fun i => e 61 _ (by decide))
  rw [e1, e2, e 60 0 (by decide), e 60 1 (by decide)]
  exact h
theorem mFx_ad {D : va_G} {cA : Nat → ClassId} {ad ad2 : Nat → Int → Nat} {A : Nat → Prop} {U : State} {H : Heap} (e : ∀ r i, 50 ≤ r → ad2 r i = ad r i) (h : mFx D cA ad A U H) : mFx D cA ad2 A U H := ⟨h.1, h.2.1, mStr_ad e h.2.2⟩
section CTOR2
variable {p : Program} {l : Launch} {e : Env} {R : Room} {s : State} {m : MethodId} {args : Array Value} {below : List Frame} {meth : Method} {c : Code} {Q : State → Prop}
variable {M : mMs} {D : va_G} {cA : Nat → ClassId} {A : Nat → Prop} {ls : Array Slot}
/-- the object is whole -/
theorem c_close {ci a r0 : Nat} {i0 : Int} {fs : List Value} {fds : List mFd} {op : va_W} {ad : Nat → Int → Nat} {ids : List (Nat × Int)} {h : mH} {H0 H : Heap} {locs : List Loc} {g : Int → Int} (S : cSt D cA A H0 ((a, .inr (ci, fs)) :: op) ad ids h H locs) (hr : mT r0 = .inr (ci, fds)) (hN : (r0, i0) ∉ ids) (h27 : (∀ j, (27, j) ∉ ids) ∨ r0 ≠ 1) (hfs : fs = mFs (adU ad r0 i0 a) (rs h r0 i0 g) r0 i0 fds) (htg : ∀ t ∈ tgs r0 i0, t ∈ ids) : cSt D cA A H0 op (adU ad r0 i0 a) (ids ++ [(r0, i0)]) (rs h r0 i0 g) H locs := by
  obtain ⟨hP, hD, hS, hC⟩ := S
  have ew : op ++ mW cA (adU ad r0 i0 a) (ids ++ [(r0, i0)]) (rs h r0 i0 g) = (op ++ mW cA ad ids h) ++ [(a, .inr (ci, fs))] := by
    rw [mW_app, mW_new hC hN (fun j => h27.elim (fun z => Or.inl (z j)) Or.inr) (fun z _ n hz => mT4 hz)]
    have e1 : mW cA (adU ad r0 i0 a) [(r0, i0)] (rs h r0 i0 g) = [(a, .inr (ci, fs))] := by
      show [(adU ad r0 i0 a r0 i0, mEnt cA (adU ad r0 i0 a) (rs h r0 i0 g) (r0, i0))] = _
      rw [adU_e, mEnt_inr hr, ← hfs]
    rw [e1, List.append_assoc]
  have hp : (((a, .inr (ci, fs)) :: op) ++ mW cA ad ids h).Perm ((op ++ mW cA ad ids h) ++ [(a, .inr (ci, fs))]) := (List.perm_append_singleton (a, Sum.inr (ci, fs)) (op ++ mW cA ad ids h)).symm
  refine ⟨by rw [ew]; exact wP_perm hp hP, by rw [ew]; exact wD_perm hp hD, hS, closed_app hC (fun q hq t ht => ?_)⟩
  rw [List.mem_singleton.mp hq] at ht
  exact List.mem_append_left _ (htg t ht)
/-- into the small machine -/
theorem c_at (O : cOk M p R s m args meth c D cA A) {pc cells slots : Nat} {ad : Nat → Int → Nat} {ids : List (Nat × Int)} {h : mH} {H : Heap} {locs : List Loc} {L : List mV} (S : cSt D cA A s.heap [] ad ids h H locs) (FX : mFx D cA ad A s s.heap) (hret : M.2.2.2.1 = none) (hR : M.2.2.2.2 ≤ R.frames ∧ 40 * M.2.2.2.2 ≤ R.locals ∧ cells ≤ R.cells ∧ slots ≤ R.slots) (hL : mLs ad M.2.2.1 L ls) (hv : mVs ids L)
    (k : At (fun G => G = ((p, l, e, R, s), (m, args, below, meth, c), (D, cA, ad, ids), (A, cells, slots, Q))) M pc L [] h) : W p l e R s m args below meth c H locs cells slots Q (F0 m pc ls []) := by
  obtain ⟨hP, hD, hS, hC⟩ := S
  exact k ((p, l, e, R, s), (m, args, below, meth, c), (D, cA, ad, ids), (A, cells, slots, Q)) rfl ⟨O.1, ⟨O.2.1.1.trans hret.symm, O.2.1.2.1⟩, FX, hC, fun h2 => mD_any hD h2, O.2.2.2, hR⟩ H locs ls hP hS hL hv (fun _ z => by cases z)
/-- the end -/
theorem c_fin (O : cOk M p R s m args meth c D cA A) {pc mc ms a r0 : Nat} {i0 : Int} {ad ad2 : Nat → Int → Nat} {ids N : List (Nat × Int)} {h h2 : mH} {H : Heap} {locs : List Loc} {Ini : mH → Prop} (hP : va_P D vwCl (mW cA ad2 (ids ++ N) h2) H) (hD : va_D A (mW cA ad2 (ids ++ N) h2)) (hS : va_S A s.heap H locs) (ho : ∀ r i, (r, i) ∉ N → ad2 r i = ad r i ∧ h2 r i = h r i) (ha : ad2 r0 i0 = a) (hi : Ini h2) (hd : decode M.2.1 pc = .ok (.return_, 1)) : W p l e R s m args below meth c H locs mc ms (MQ below (cPost D cA ad ids N r0 i0 a h Ini A) args s mc ms A) (F0 m pc ls []) :=
  W.vret O.1.1 O.1.2.1 O.2.1.1 (fun t ht hW => ⟨ad2, h2, rfl, ho, ha, hi, by rw [ht]; exact hP, hD, hS.F ht⟩) hS.2.2 hd O.2.1.2.1
/-- a new object, twice on the stack -/
theorem c_new (O : cOk M p R s m args meth c D cA A) {pc idx ci cells slots : Nat} {q : vw_C} {dv : List Value} {op : va_W} {ad : Nat → Int → Nat} {ids : List (Nat × Int)} {h : mH} {H : Heap} {locs : List Loc} {rest : List Value} {ty : Nat → FieldType} (S : cSt D cA A s.heap op ad ids h H locs) (hq : vwCl[ci]? = some q) (hty : ∀ k, k < q.2.2 → parseFieldDescriptor (q.2.1 k).2.2.1 = some (ty k)) (hcl : Cond.classLink M.1.cls idx q.1 ∈ mTbl) (hin : Cond.instantiable q.1 q.2.2 ∈ mTbl) (hini : Cond.initialized q.1 ∈ mTbl) (hdv : ∀ j, j < q.2.2 → defaultValue (ty j) = vp_V dv j) (hc : cells + 1 ≤ R.cells) (hs : slots + q.2.2 ≤ R.slots) (hd : decode M.2.1 pc = .ok (.new idx, 3)) (hd2 : decode M.2.1 (pc + 3) = .ok (.dup, 1))
    (kk : ∀ (w : Nat) (H1 : Heap), cSt D cA A s.heap ((w, .inr (ci, dv)) :: op) ad ids h H1 locs → W p l e R s m args below meth c H1 locs (cells + 1) (slots + q.2.2) Q (F0 m (pc + 4) ls (.ref w :: .ref w :: rest))) : W p l e R s m args below meth c H locs cells slots Q (F0 m pc ls rest) := by
  obtain ⟨hP, hD, hS, hC⟩ := S
  refine va_new (ci := ci) (fs := dv) (C := q.1) (T := q.2.1) (N := q.2.2) O.1.1 O.1.2.1 O.1.2.2.2.2 (mLay ci q hq) ty hty O.1.2.2.2.1 (O.1.2.2.2.2 _ hcl) (O.1.2.2.2.2 _ hin) (O.1.2.2.2.2 _ hini) O.2.2.1 hP hD hS O.2.2.2 hq hdv hc hs hd (fun w H1 hP1 hD1 hS1 => ?_)
  refine lv_dup O.1.1 O.1.2.1 hd2 rfl ?_
  have hp : ((op ++ mW cA ad ids h) ++ [(w, Sum.inr (ci, dv))]).Perm (((w, Sum.inr (ci, dv)) :: op) ++ mW cA ad ids h) := List.perm_append_singleton (w, Sum.inr (ci, dv)) (op ++ mW cA ad ids h)
  exact kk w H1 ⟨wP_perm hp hP1, wD_perm hp hD1, hS1, hC⟩
theorem c_run (O : cOk M p R s m args meth c D cA A) {pc w r0 ci2 mc ms cells slots : Nat} {i0 : Int} {dv st0 rest : List Value} {op : va_W} {ad : Nat → Int → Nat} {ids N : List (Nat × Int)} {h : mH} {Ini : mH → Prop} {H : Heap} {locs : List Loc} {av : Array Value} (S : cSt D cA A s.heap ((w, .inr (ci2, dv)) :: op) ad ids h H locs) (hNc : ∀ q ∈ N, ∀ t ∈ tgs q.1 q.2, t ∈ ids ++ N)
    (hr : va_Run p l e R s m args below meth c H locs cells slots mc ms (F0 m pc ls st0) rest (cPost D cA ad ids N r0 i0 w h Ini (va_A ((w, .inr (ci2, dv)) :: mW cA ad ids h) H.size) av) (va_A ((w, .inr (ci2, dv)) :: mW cA ad ids h) H.size))
    (kk : ∀ (ad2 : Nat → Int → Nat) (h2 : mH) (H1 : Heap) (locs1 : List Loc), (∀ r i, (r, i) ∉ N → ad2 r i = ad r i ∧ h2 r i = h r i) → ad2 r0 i0 = w → Ini h2 → cSt D cA A s.heap op ad2 (ids ++ N) h2 H1 locs1 → W p l e R s m args below meth c H1 locs1 (cells + mc) (slots + ms) Q (F0 m (pc + 3) ls rest)) : W p l e R s m args below meth c H locs cells slots Q (F0 m pc ls st0) := by
  obtain ⟨hP, hD, hS, hC⟩ := S
  intro T hT X
  obtain ⟨v, s0, t, T', L', h0, X', hL', e1, e2, ⟨ad2, h2, hv, ho, ha, hi, hP2, hD2, hF2⟩, go⟩ := hr T hT X
  cases hv
  have hD' := wD_iff.mp hD
  have hfr : ∀ q, va_A ((w, .inr (ci2, dv)) :: mW cA ad ids h) H.size q → A q := by
    rintro q (⟨k, x, hk⟩ | z)
    · have hm := List.mem_of_getElem? hk
      refine hD'.2 (q, x) ?_
      rcases List.mem_cons.mp hm with z | z
      · rw [z]; exact List.mem_cons_self
      · exact List.mem_cons_of_mem _ (List.mem_append_right _ z)
    · exact O.2.2.2 q (Nat.le_trans hS.1 z)
  have hsz : H.size ≤ t.heap.size := by rw [← h0]; exact hF2.1
  have hS' : va_S A s.heap T'.heap (locs ++ L') := by
    refine ⟨by rw [e1]; exact Nat.le_trans hS.1 hsz, fun q h1 h3 => ?_, fun q hq => ?_⟩
    · rw [e1, hF2.2 q (by rw [h0]; exact Nat.lt_of_lt_of_le h1 hS.1) (fun z => h3 (hfr q z)), h0]
      exact hS.2.1 q h1 h3
    · rcases List.mem_append.mp hq with z | z
      · exact hS.2.2 q z
      · exact hfr _ (hL' q z)
  have hnd := hD'.1
  have hmap : (((w, Sum.inr (ci2, dv)) :: op) ++ mW cA ad ids h).map (fun q => q.1) = w :: (op.map (fun q => q.1) ++ (mW cA ad ids h).map (fun q => q.1)) := by simp
  rw [hmap] at hnd
  have hnw := (List.nodup_cons.mp hnd).1
  obtain ⟨hn1, hn2, hn3⟩ := List.nodup_append.mp (List.nodup_cons.mp hnd).2
  have hlt : ∀ q ∈ op, q.1 < H.size := fun q hq => by
    obtain ⟨k, hk⟩ := List.getElem?_of_mem (show q ∈ ((w, Sum.inr (ci2, dv)) :: op) ++ mW cA ad ids h from List.mem_append_left _ (List.mem_cons_of_mem _ hq))
    exact (hP k q hk).lt
  have hout : ∀ q ∈ op, ¬ va_A ((w, .inr (ci2, dv)) :: mW cA ad ids h) H.size q.1 := by
    rintro q hq (⟨k, x, hk⟩ | z)
    · have hm := List.mem_of_getElem? hk
      rcases List.mem_cons.mp hm with z | z
      · have e9 : q.1 = w := congrArg Prod.fst z
        exact hnw (by rw [← e9]; exact List.mem_append_left _ (List.mem_map_of_mem hq))
      · exact hn3 q.1 (List.mem_map_of_mem hq) q.1 (List.mem_map.mpr ⟨(q.1, x), z, rfl⟩) rfl
    · exact absurd (hlt q hq) (by omega)
  have hPop : va_P D vwCl op T'.heap := by
    have h9 : va_P D vwCl op H := wP_mem.mpr (fun q hq => wP_mem.mp hP q (List.mem_append_left _ (List.mem_cons_of_mem _ hq)))
    refine h9.kept (fun k q hk => ?_)
    have hm := List.mem_of_getElem? hk
    rw [e1, hF2.2 q.1 (by rw [h0]; exact hlt q hm) (hout q hm), h0]
  have hD2' := wD_iff.mp hD2
  have hDn : va_D A (op ++ mW cA ad2 (ids ++ N) h2) := by
    refine wD_iff.mpr ⟨?_, fun q hq => ?_⟩
    · rw [List.map_append]
      refine List.nodup_append.mpr ⟨hn1, hD2'.1, fun x hx y hy exy => ?_⟩
      obtain ⟨q, hq, rfl⟩ := List.mem_map.mp hx
      obtain ⟨q2, hq2, rfl⟩ := List.mem_map.mp hy
      exact hout q hq (by rw [exy]; exact hD2'.2 q2 hq2)
    · rcases List.mem_append.mp hq with z | z
      · exact hD'.2 q (List.mem_append_left _ (List.mem_cons_of_mem _ z))
      · exact hfr _ (hD2'.2 q z)
  obtain ⟨t2, a1, b1⟩ := kk ad2 h2 T'.heap (locs ++ L') ho ha hi ⟨hPop.app (by rw [e1]; exact hP2), hDn, hS', closed_app hC hNc⟩ T' rfl X'
  exact ⟨t2, go t2 a1, b1⟩
theorem c_pre (O : cOk M p R s m args meth c D cA A) {w ci2 : Nat} {dv : List Value} {op : va_W} {ad : Nat → Int → Nat} {ids : List (Nat × Int)} {h : mH} {H : Heap} {locs : List Loc} (S : cSt D cA A s.heap ((w, .inr (ci2, dv)) :: op) ad ids h H locs) (FX : mFx D cA ad A s s.heap) (AO : va_AO "RateOffice$Book" s) {U : State} (hU : U.heap = H) (hW : s.WarmedH U.vm) : cPre D cA ad [(w, .inr (ci2, dv))] ids H.size h U := by
  obtain ⟨hP, hD, hS, hC⟩ := S
  obtain ⟨f1, f2, f3⟩ := FX
  have hsub : ∀ q ∈ [(w, Sum.inr (ci2, dv))] ++ mW cA ad ids h, q ∈ ((w, Sum.inr (ci2, dv)) :: op) ++ mW cA ad ids h := by
    intro q hq
    rcases List.mem_append.mp hq with z | z
    · rw [List.mem_singleton.mp z]; exact List.mem_cons_self
    · exact List.mem_append_right _ z
  have hD' := wD_iff.mp hD
  have hDs : va_D (fun _ => True) ([(w, Sum.inr (ci2, dv))] ++ mW cA ad ids h) := by
    refine wD_iff.mpr ⟨?_, fun _ _ => trivial⟩
    refine List.Nodup.sublist ?_ hD'.1
    refine List.Sublist.map _ ?_
    exact List.Sublist.append (List.Sublist.cons_cons _ (List.nil_sublist _)) (List.Sublist.refl _)
  refine ⟨by rw [hU], by rw [hU]; exact wP_mem.mpr (fun q hq => wP_mem.mp hP q (hsub q hq)), hDs, ⟨f1.moved hW.alike, f2.warm hW, ?_⟩, AO.moved hW.alike⟩
  rw [hU]
  refine ((f3.kept hS.2.1).narrow ?_).warm hW
  rintro q (⟨k, x, hk⟩ | z)
  · exact hD'.2 (q, x) (hsub _ (List.mem_of_getElem? hk))
  · exact O.2.2.2 q (Nat.le_trans hS.1 z)
theorem c_blind {av : List Value} {ad : Nat → Int → Nat} {op : va_W} {ids : List (Nat × Int)} {sz : Nat} {h : mH} : FrameBlind (va_Pc av (cPre D cA ad op ids sz h)) := by
  rintro a U g mk ⟨q0, q1, qP, qD, ⟨qK, qN, qS⟩, qA⟩
  exact ⟨q0, q1, qP, qD, ⟨qK.moved (u := U) (U := U.calling g mk a) (Vm.Alike.refl U.vm), qN.same rfl, qS.same rfl⟩, qA.moved (u := U) (U := U.calling g mk a) (Vm.Alike.refl U.vm)⟩
/-- a constructor, as a caller has it -/
def mCt (M2 : mMs) (n : Nat) : Prop := Cond.instanceMethod M2.1 ∈ mTbl ∧ Cond.initialized M2.1.cls ∈ mTbl ∧ Cond.code M2.1 M2.2.1 M2.2.2.1 none ∈ mTbl ∧ M2.2.2.2.1 = none ∧ M2.1.name = "<init>" ∧ (M2.1.cls ≠ "java/lang/invoke/MethodHandle" ∧ M2.1.cls ≠ "java/lang/invoke/VarHandle" ∧ (parseMethodDescriptor M2.1.desc).map (fun d => d.parameters.length) = some n) ∧ M2.2.2.1 ≤ 21
theorem c_init (O : cOk M p R s m args meth c D cA A) {M2 : mMs} {pc idx w r0 ci2 mc ms cells slots n : Nat} {i0 : Int} {dv rest : List Value} {as : List mV} {op : va_W} {ad : Nat → Int → Nat} {ids N need : List (Nat × Int)} {h : mH} {Ini : mH → Prop} {H : Heap} {locs : List Loc} (S : cSt D cA A s.heap ((w, .inr (ci2, dv)) :: op) ad ids h H locs) (FX : mFx D cA ad A s s.heap) (AO : va_AO "RateOffice$Book" s) (hls : ls.size = M.2.2.1)
    (ct : CtOk M2 r0 i0 ci2 dv as N need Ini mc ms) (hm : mCt M2 n) (hl : Cond.methodLink M.1.cls idx M2.1 ∈ mTbl) (hn : as.length = n) (hN : ∀ q ∈ N, q ∉ ids) (hneed : ∀ q ∈ need, q ∈ ids) (h27 : (∀ j, (27, j) ∉ ids) ∨ r0 = 30) (hNc : ∀ q ∈ N, ∀ t ∈ tgs q.1 q.2, t ∈ ids ++ N) (hR : M2.2.2.2.2 + 1 ≤ R.frames ∧ 40 * M2.2.2.2.2 + 40 ≤ R.locals) (hc : cells + mc ≤ R.cells ∧ slots + ms ≤ R.slots) (hst : (rest.map fun v => v.category).sum ≤ 8) (hd : decode M.2.1 pc = .ok (.invokespecial idx, 3))
    (kk : ∀ (ad2 : Nat → Int → Nat) (h2 : mH) (H1 : Heap) (locs1 : List Loc), (∀ r i, (r, i) ∉ N → ad2 r i = ad r i ∧ h2 r i = h r i) → ad2 r0 i0 = w → Ini h2 → cSt D cA A s.heap op ad2 (ids ++ N) h2 H1 locs1 → W p l e R s m args below meth c H1 locs1 (cells + mc) (slots + ms) Q (F0 m (pc + 3) ls rest)) : W p l e R s m args below meth c H locs cells slots Q (F0 m pc ls ((as.map (mIv ad)).reverse ++ .ref w :: rest)) := by
  obtain ⟨w1, w2, w3, hret, hname, hx, hnl⟩ := hm
  have hgood : GoodIn mTbl (mWs M2) := mTbl_good (by
    intro z hz
    rcases List.mem_cons.mp hz with rfl | hz
    · rw [hret]; exact w3
    · exact hz)
  refine c_run O S hNc (va_runI (As := as.map (mIv ad)) (rest := rest) (b := w) O.1 (ct l D cA ad ids H.size w h S.2.2.2 hN hneed h27) (cwI (own := M.1.cls) (index := idx) n O.1.2.2.2.2 hgood (bytes := M2.2.1) (maxL := M2.2.2.1) (ws' := mTbl) (by unfold mWs; rw [hret]) rfl rfl (O.1.2.2.2.2 _ w2) (O.1.2.2.2.2 _ hl) (O.1.2.2.2.2 _ w1) hname hx ⟨hR.1, ?_⟩) ⟨c_blind, fun U hU hW => ⟨rfl, c_pre O S FX AO hU hW⟩⟩ rfl (by rw [List.length_map]; exact hn) hls rfl (lv_room hst) hd hc) kk
  have := hR.2
  show 8 + (M2.2.2.1 + 11) + 40 * M2.2.2.2.2 ≤ _
  omega
/-- a private one of the nest -/
theorem c_initN (O : cOk M p R s m args meth c D cA A) {M2 : mMs} {host : String} {pc idx w r0 ci2 mc ms cells slots n : Nat} {i0 : Int} {dv rest : List Value} {as : List mV} {op : va_W} {ad : Nat → Int → Nat} {ids N need : List (Nat × Int)} {h : mH} {Ini : mH → Prop} {H : Heap} {locs : List Loc} (S : cSt D cA A s.heap ((w, .inr (ci2, dv)) :: op) ad ids h H locs) (FX : mFx D cA ad A s s.heap) (AO : va_AO "RateOffice$Book" s) (hls : ls.size = M.2.2.1)
    (ct : CtOk M2 r0 i0 ci2 dv as N need Ini mc ms) (hm : mCt M2 n) (hl : (M.1.cls, idx, M2.1, host) ∈ mNst) (hn : as.length = n) (hN : ∀ q ∈ N, q ∉ ids) (hneed : ∀ q ∈ need, q ∈ ids) (h27 : (∀ j, (27, j) ∉ ids) ∨ r0 = 30) (hNc : ∀ q ∈ N, ∀ t ∈ tgs q.1 q.2, t ∈ ids ++ N) (hR : M2.2.2.2.2 + 1 ≤ R.frames ∧ 40 * M2.2.2.2.2 + 40 ≤ R.locals) (hc : cells + mc ≤ R.cells ∧ slots + ms ≤ R.slots) (hst : (rest.map fun v => v.category).sum ≤ 8) (hd : decode M.2.1 pc = .ok (.invokespecial idx, 3))
    (kk : ∀ (ad2 : Nat → Int → Nat) (h2 : mH) (H1 : Heap) (locs1 : List Loc), (∀ r i, (r, i) ∉ N → ad2 r i = ad r i ∧ h2 r i = h r i) → ad2 r0 i0 = w → Ini h2 → cSt D cA A s.heap op ad2 (ids ++ N) h2 H1 locs1 → W p l e R s m args below meth c H1 locs1 (cells + mc) (slots + ms) Q (F0 m (pc + 3) ls rest)) : W p l e R s m args below meth c H locs cells slots Q (F0 m pc ls ((as.map (mIv ad)).reverse ++ .ref w :: rest)) := by
  obtain ⟨w1, w2, w3, hret, hname, hx, hnl⟩ := hm
  have hgood : GoodIn mTbl (mWs M2) := mTbl_good (by
    intro z hz
    rcases List.mem_cons.mp hz with rfl | hz
    · rw [hret]; exact w3
    · exact hz)
  refine c_run O S hNc (va_runIN (As := as.map (mIv ad)) (rest := rest) (b := w) O.1 (ct l D cA ad ids H.size w h S.2.2.2 hN hneed h27) ⟨va_cnB (own := M.1.cls) (host := host) (index := idx) n O.1.2.2.2.2 hgood (bytes := M2.2.1) (maxL := M2.2.2.1) (ws' := mTbl) (by unfold mWs; rw [hret]) rfl rfl (FX.2.1 _ hl) (O.1.2.2.2.2 _ w2) hx ⟨hR.1, ?_⟩, hname, O.1.2.2.2.2 _ w1⟩ ⟨c_blind, fun U hU hW => ⟨rfl, c_pre O S FX AO hU hW⟩⟩ rfl (by rw [List.length_map]; exact hn) hls rfl (lv_room hst) hd hc) kk
  have := hR.2
  show 8 + (M2.2.2.1 + 11) + 40 * M2.2.2.2.2 ≤ _
  omega
/-- a field of what isn't whole yet -/
theorem c_put (O : cOk M p R s m args meth c D cA A) {pc idx ci k a cells slots : Nat} {q : vw_C} {fs rest : List Value} {v : Value} {op : va_W} {ad : Nat → Int → Nat} {ids : List (Nat × Int)} {h : mH} {H : Heap} {locs : List Loc} (S : cSt D cA A s.heap ((a, .inr (ci, fs)) :: op) ad ids h H locs) (hq : vwCl[ci]? = some q) (hk : k < q.2.2) (hfl : Cond.fieldLink M.1.cls idx (q.2.1 k).1 (q.2.1 k).2.1 (q.2.1 k).2.2.1 ∈ mTbl) (hdecl : (q.2.1 k).1 = M.1.cls) {ty2 : FieldType} (hty2 : parseFieldDescriptor (q.2.1 k).2.2.1 = some ty2) (hfit : narrow ty2 v = v ∧ fits ty2 v = true) (hlen : k < fs.length) (hd : decode M.2.1 pc = .ok (.putfield idx, 3))
    (kk : ∀ (H1 : Heap) (locs1 : List Loc), cSt D cA A s.heap ((a, .inr (ci, fs.set k v)) :: op) ad ids h H1 locs1 → W p l e R s m args below meth c H1 locs1 cells slots Q (F0 m (pc + 3) ls rest)) : W p l e R s m args below meth c H locs cells slots Q (F0 m pc ls (v :: .ref a :: rest)) := by
  obtain ⟨hP, hD, hS, hC⟩ := S
  obtain ⟨ty0, hty⟩ := mTyk ci q hq
  have ew : ((a, Sum.inr (ci, fs.set k v)) :: op) ++ mW cA ad ids h = (((a, Sum.inr (ci, fs)) :: op) ++ mW cA ad ids h).set 0 (a, .inr (ci, fs.set k v)) := rfl
  cases hb : (q.2.1 k).2.2.2 with
  | true =>
    refine va_putF (D := D) (v := v) O.1.1 O.1.2.1 O.1.2.2.2.2 (mLay ci q hq) ty0 hty (mNm ci q hq) O.1.2.2.2.1 O.2.2.1 hP hD hS 0 rfl hq k hk (O.1.2.2.2.2 _ hfl) (fun _ z => z) hb O.2.1.2.2 hdecl hty2 hfit.1 hfit.2 hlen hd (fun H2 locs2 hP2 hD2 hS2 => ?_)
    exact kk H2 locs2 ⟨by rw [ew]; exact hP2, by rw [ew]; exact hD2, hS2, hC⟩
  | false =>
    refine va_put (D := D) (v := v) O.1.1 O.1.2.1 O.1.2.2.2.2 (mLay ci q hq) ty0 hty (mNm ci q hq) O.1.2.2.2.1 O.2.2.1 hP hD hS 0 rfl hq k hk (O.1.2.2.2.2 _ hfl) (fun _ z => z) hb hty2 hfit.1 hfit.2 hlen hd (fun H2 locs2 hP2 hD2 hS2 => ?_)
    exact kk H2 locs2 ⟨by rw [ew]; exact hP2, by rw [ew]; exact hD2, hS2, hC⟩
end CTOR2
