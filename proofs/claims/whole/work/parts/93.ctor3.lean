/-! constructors: Book, Plan -/
section CTOR3
theorem k0_clearB {h : mH} {K : mH → Prop} {b : Int} (k : ∀ h2, (∀ q c, ¬ (1 ≤ q ∧ q ≤ 6 ∧ c = b) → h2 q c = h q c) → BN h2 b s00 → h2 1 b 6 = 0 → (∀ x, 0 ≤ x → x < 32 → h2 6 b x = 10000) → K h2) : OkV M0_clear [mR 1 b] h K := by
  refine s0_clear ?_
  rintro _ rfl _ rfl _ rfl _ rfl _ rfl _ rfl
  generalize hH : mSet (mSet (mSet (mSet (mSet (mSet h 1 b 0 0) 1 b 1 1000) 1 b 2 250) 1 b 3 0) 1 b 4 99) 1 b 5 0 = H
  have c : ∀ (q : Nat) (c : Int), ¬ (1 ≤ q ∧ q ≤ 6 ∧ c = b) → ∀ (G : mH) (m : Nat) (a v : Int), 1 ≤ m ∧ m ≤ 6 → mSet G m b a v q c = G q c := by
    intro q c z G m a v hm
    funext x
    unfold mSet
    rw [if_neg]
    rintro ⟨rfl, rfl, -⟩
    exact z ⟨hm.1, hm.2, rfl⟩
  have fH : ∀ (q : Nat) (d : Int), ¬ (1 ≤ q ∧ q ≤ 6 ∧ d = b) → H q d = h q d := fun q d z => by
    rw [← hH, c q d z _ 1 _ _ (by decide), c q d z _ 1 _ _ (by decide), c q d z _ 1 _ _ (by decide), c q d z _ 1 _ _ (by decide), c q d z _ 1 _ _ (by decide), c q d z _ 1 _ _ (by decide)]
  have bH : BN H b s00 := by
    unfold BN
    rw [← hH]
    refine ⟨?_, ?_, ?_, ?_, ?_, mSet_e⟩
    · rw [mSet_kk (by decide), mSet_kk (by decide), mSet_kk (by decide), mSet_kk (by decide), mSet_kk (by decide), mSet_e]; rfl
    · rw [mSet_kk (by decide), mSet_kk (by decide), mSet_kk (by decide), mSet_kk (by decide), mSet_e]; rfl
    · rw [mSet_kk (by decide), mSet_kk (by decide), mSet_kk (by decide), mSet_e]; rfl
    · rw [mSet_kk (by decide), mSet_kk (by decide), mSet_e]; rfl
    · rw [mSet_kk (by decide), mSet_e]; rfl
  have key := upI (P := fun x => ∀ h1, (∀ q d, ¬ (q = 6 ∧ d = b) → h1 q d = H q d) → (∀ y, 0 ≤ y → y < x → h1 6 b y = 10000) → A0_clear_37 K b x h1) (n := 32) (fun h1 e1 e2 => ?_) (fun x h5 h6 ih h1 e1 e2 => ?_) 0 (by decide) (by decide) H (fun _ _ _ => rfl) (fun y a b => by omega)
  · exact key
  · refine s0_clear_37 ⟨by decide, fun _ => ?_, fun z => absurd (Int.le_refl _) z⟩
    rintro _ rfl
    refine k _ (fun q d z => ?_) ?_ mSet_e (fun x a d => ?_)
    · rw [c q d z _ 1 _ _ (by decide), e1 q d (by omega), fH q d z]
    · unfold BN
      rw [mSet_kk (by decide), mSet_kk (by decide), mSet_kk (by decide), mSet_kk (by decide), mSet_kk (by decide), mSet_kk (by decide), e1 1 b (by omega)]
      exact bH
    · rw [mSet_o (by decide)]; exact e2 x a d
  · refine s0_clear_37 ⟨by omega, fun z => by omega, fun _ => ⟨by omega, ?_⟩⟩
    rintro _ rfl
    refine ih _ (fun q d z => ?_) (fun y a d => ?_)
    · have : mSet h1 6 b x 10000 q d = h1 q d := by
        funext m
        unfold mSet
        rw [if_neg (fun w => z ⟨w.1, w.2.1⟩)]
      rw [this]; exact e1 q d z
    · by_cases u : y = x
      · rw [u, mSet_e]
      · rw [mSet_kk u]; exact e2 y a (by omega)
theorem arr_i (cI : ClassId) (ad : Nat → Int → Nat) (h : mH) (r : Nat) (i : Int) (n : Nat) (e : h r i = (fun _ => 0)) : vp_cell cI (mRow ad h r i 1 n) = arrV cI n (fun _ => defaultValue .int) := by
  rw [mRow_i (by decide), e]
  rfl
theorem arr_b (cI : ClassId) (ad : Nat → Int → Nat) (h : mH) (r : Nat) (i : Int) (n : Nat) (e : h r i = (fun _ => 0)) : vp_cell cI (mRow ad h r i 0 n) = arrV cI n (fun _ => defaultValue .byte) := by
  rw [mRow_i (by decide), e]
  rfl
theorem arr_z (cI : ClassId) (ad : Nat → Int → Nat) (h : mH) (r : Nat) (i : Int) (n : Nat) (e : h r i = (fun _ => 0)) : vp_cell cI (mRow ad h r i 3 n) = arrV cI n (fun _ => defaultValue .boolean) := by
  rw [mRow_i (by decide), e]
  rfl
theorem arr_l (cI : ClassId) (ad : Nat → Int → Nat) (h : mH) (r : Nat) (i : Int) (n : Nat) (e : h r i = (fun _ => 0)) : vp_cell cI (mRow ad h r i 2 n) = arrV cI n (fun _ => defaultValue .long) := by
  show vp_cell cI (n, Sum.inr (Sum.inl (fun j => Int64.ofInt (h r i (j : Int))))) = _
  rw [e]
  rfl
abbrev nB (b : Int) : List (Nat × Int) := [(2, b), (3, b), (4, b), (5, b), (6, b), (1, b)]
/-- a fresh book -/
def iB (b : Int) (h : mH) : Prop := BN h b s00 ∧ h 1 b 6 = 0 ∧ ∀ x, 0 ≤ x → x < 32 → h 6 b x = 10000
theorem ne_r {r r2 : Nat} {i j : Int} (h : r ≠ r2) : ((r, i) : Nat × Int) ≠ (r2, j) := fun e => h (congrArg Prod.fst e)
theorem nin {ids : List (Nat × Int)} {q x : Nat × Int} (h : q ∉ ids) (hx : q ≠ x) : q ∉ ids ++ [x] := fun z => (List.mem_append.mp z).elim h (fun w => hx (List.mem_singleton.mp w))
theorem lsU {ad : Nat → Int → Nat} {r : Nat} {i : Int} {a n : Nat} {ls : Array Slot} {l : List (Nat × Value)} (hl : lv_has ls n l) (h0 : (0, Value.ref a) ∈ l) (ha : ad r i = a) : mLs ad n [mR r i] ls := ⟨hl.1, hl.2.1, fun j v hj hu => by
  match j, hj with
  | 0, hj =>
    cases hj
    have := hl.2.2 (0, Value.ref a) h0
    show ls[0]? = some (.val (.ref (ad r i)))
    rw [ha]
    exact this
  | j + 1, hj => simp at hj⟩
theorem vs1 {ids : List (Nat × Int)} {r : Nat} {i : Int} (h : (r, i) ∈ ids) : mVs ids [mR r i] := mVs.cons (fun _ _ => h) (fun _ z => by cases z)

theorem ct_book (b : Int) : CtOk M0_init 1 b 0 [.int 0, .int 0, .int 0, .int 0, .int 0, .int 0, .int 0, .null, .null, .null, .null, .null] [] (nB b) [] (iB b) 5 192 := by
  intro l D cA ad ids sz a h hC hN hne h27
  have h27 : ∀ j, (27, j) ∉ ids := h27.resolve_right (by decide)
  refine va_MetF (cc := cX0_init) (maxL := 1) (ret := none) (ws' := mTbl) rfl rfl ?_
  intro p e s m args below meth c s₁ B hml hv
  obtain ⟨rfl, hsz, hP, hD0, hFx, hAO⟩ := hv
  subst hsz
  have hts := atoms_spec (ws := mWs M0_init) B.pre
  have hD := hD0.self (sz := s.heap.size)
  have O : cOk M0_init p (cRoom 1 5 192) s m _ meth c D cA (va_A ([(a, Sum.inr (0, [.int 0, .int 0, .int 0, .int 0, .int 0, .int 0, .int 0, .null, .null, .null, .null, .null]))] ++ mW cA ad ids h) s.heap.size) := ⟨⟨B.exec, B.bytes, hml, findClass_of_methodNamed B.named, fun w hw => hts w (List.mem_cons_of_mem _ hw)⟩, ⟨B.returns, B.notSynchronized, (name_of_methodNamed B.named B.method).1⟩, hFx.1, fun q hq => Or.inr hq⟩
  have S0 : cSt D cA _ s.heap [(a, Sum.inr (0, [.int 0, .int 0, .int 0, .int 0, .int 0, .int 0, .int 0, .null, .null, .null, .null, .null]))] ad ids h s.heap [] := ⟨hP, hD, va_S.rf, hC⟩
  have hl := lv_entry ([.ref a]) (n := 1) (Nat.le_of_ble_eq_true rfl)
  show W _ _ _ _ _ _ _ _ _ _ _ _ _ _ _ (entryFrame m ([.ref a] : List Value).toArray 1)
  rw [lg_entry_eq]
  generalize (lg_sl ([.ref a]) ++ List.replicate (1 - (lg_sl ([.ref a])).length) Slot.unset).toArray = ls at hl ⊢
  have hl : lv_has ls 1 [(0, .ref a)] := hl
  refine lv_aload_n O.1.1 O.1.2.1 (dT d0_init 0 rfl).1 rfl (lv_at hl 0 rfl) ?_
  refine c_objI O hl.1 ol_0 oi_1 oi_2 ⟨by decide, by decide⟩ (dT d0_init 1 rfl).1 ?_
  refine lv_aload_n O.1.1 O.1.2.1 (dT d0_init 2 rfl).1 rfl (lv_at hl 0 rfl) ?_
  refine lv_bipush O.1.1 O.1.2.1 (dT d0_init 3 rfl).1 rfl ?_
  refine c_arr O (n := 40) (r := 2) (i := b) (k := 7) (kx := 1) (atype := .int) (ty := .int) S0 rfl ka_int (fun _ => rfl) (fun _ _ z => z) (fun cI ad h e => arr_i cI ad h 2 b 40 e) rfl (hN _ (by simp)) (by decide) (by decide) (Nat.le_of_ble_eq_true rfl) (Nat.le_of_ble_eq_true rfl) (Nat.le_of_ble_eq_true rfl) (dT d0_init 4 rfl).1 (dT d0_init 5 rfl).1 rfl (by decide) cf_0_9 rfl rfl rfl (fun x => ⟨rfl, rfl⟩) (Nat.le_of_ble_eq_true rfl) (fun w2 H2 l2 S2 => ?_)
  refine lv_aload_n O.1.1 O.1.2.1 (dT d0_init 6 rfl).1 rfl (lv_at hl 0 rfl) ?_
  refine lv_bipush O.1.1 O.1.2.1 (dT d0_init 7 rfl).1 rfl ?_
  refine c_arr O (n := 40) (r := 3) (i := b) (k := 8) (kx := 1) (atype := .int) (ty := .int) S2 rfl ka_int (fun _ => rfl) (fun _ _ z => z) (fun cI ad h e => arr_i cI ad h 3 b 40 e) rfl (nin (hN _ (by simp)) (ne_r (by decide))) (by decide) (by decide) (Nat.le_of_ble_eq_true rfl) (Nat.le_of_ble_eq_true rfl) (Nat.le_of_ble_eq_true rfl) (dT d0_init 8 rfl).1 (dT d0_init 9 rfl).1 rfl (by decide) cf_0_15 rfl rfl rfl (fun x => ⟨rfl, rfl⟩) (Nat.le_of_ble_eq_true rfl) (fun w3 H3 l3 S3 => ?_)
  refine lv_aload_n O.1.1 O.1.2.1 (dT d0_init 10 rfl).1 rfl (lv_at hl 0 rfl) ?_
  refine lv_bipush O.1.1 O.1.2.1 (dT d0_init 11 rfl).1 rfl ?_
  refine c_arr O (n := 40) (r := 4) (i := b) (k := 9) (kx := 1) (atype := .int) (ty := .int) S3 rfl ka_int (fun _ => rfl) (fun _ _ z => z) (fun cI ad h e => arr_i cI ad h 4 b 40 e) rfl (nin (nin (hN _ (by simp)) (ne_r (by decide))) (ne_r (by decide))) (by decide) (by decide) (Nat.le_of_ble_eq_true rfl) (Nat.le_of_ble_eq_true rfl) (Nat.le_of_ble_eq_true rfl) (dT d0_init 12 rfl).1 (dT d0_init 13 rfl).1 rfl (by decide) cf_0_18 rfl rfl rfl (fun x => ⟨rfl, rfl⟩) (Nat.le_of_ble_eq_true rfl) (fun w4 H4 l4 S4 => ?_)
  refine lv_aload_n O.1.1 O.1.2.1 (dT d0_init 14 rfl).1 rfl (lv_at hl 0 rfl) ?_
  refine lv_bipush O.1.1 O.1.2.1 (dT d0_init 15 rfl).1 rfl ?_
  refine c_arr O (n := 40) (r := 5) (i := b) (k := 10) (kx := 1) (atype := .int) (ty := .int) S4 rfl ka_int (fun _ => rfl) (fun _ _ z => z) (fun cI ad h e => arr_i cI ad h 5 b 40 e) rfl (nin (nin (nin (hN _ (by simp)) (ne_r (by decide))) (ne_r (by decide))) (ne_r (by decide))) (by decide) (by decide) (Nat.le_of_ble_eq_true rfl) (Nat.le_of_ble_eq_true rfl) (Nat.le_of_ble_eq_true rfl) (dT d0_init 16 rfl).1 (dT d0_init 17 rfl).1 rfl (by decide) cf_0_21 rfl rfl rfl (fun x => ⟨rfl, rfl⟩) (Nat.le_of_ble_eq_true rfl) (fun w5 H5 l5 S5 => ?_)
  refine lv_aload_n O.1.1 O.1.2.1 (dT d0_init 18 rfl).1 rfl (lv_at hl 0 rfl) ?_
  refine lv_bipush O.1.1 O.1.2.1 (dT d0_init 19 rfl).1 rfl ?_
  refine c_arr O (n := 32) (r := 6) (i := b) (k := 11) (kx := 1) (atype := .int) (ty := .int) S5 rfl ka_int (fun _ => rfl) (fun _ _ z => z) (fun cI ad h e => arr_i cI ad h 6 b 32 e) rfl (nin (nin (nin (nin (hN _ (by simp)) (ne_r (by decide))) (ne_r (by decide))) (ne_r (by decide))) (ne_r (by decide))) (by decide) (by decide) (Nat.le_of_ble_eq_true rfl) (Nat.le_of_ble_eq_true rfl) (Nat.le_of_ble_eq_true rfl) (dT d0_init 20 rfl).1 (dT d0_init 21 rfl).1 rfl (by decide) cf_0_24 rfl rfl rfl (fun x => ⟨rfl, rfl⟩) (Nat.le_of_ble_eq_true rfl) (fun w6 H6 l6 S6 => ?_)
  have SC := c_close S6 (r0 := 1) (i0 := b) (g := fun _ => 0) rfl (nin (nin (nin (nin (nin (hN _ (by simp)) (ne_r (by decide))) (ne_r (by decide))) (ne_r (by decide))) (ne_r (by decide))) (ne_r (by decide))) (Or.inl (fun j => nin (nin (nin (nin (nin (h27 j) (ne_r (by decide))) (ne_r (by decide))) (ne_r (by decide))) (ne_r (by decide))) (ne_r (by decide)))) (by simp [mFs, rs, adU]) (by intro t ht; simp [tgs, mT] at ht; rcases ht with rfl | rfl | rfl | rfl | rfl <;> simp)
  have fx : mFx D cA (adU (adU (adU (adU (adU (adU ad 2 b w2) 3 b w3) 4 b w4) 5 b w5) 6 b w6) 1 b a) _ s s.heap := mFx_ad (fun r i hr => by rw [adU_o (ne_r (by omega)), adU_o (ne_r (by omega)), adU_o (ne_r (by omega)), adU_o (ne_r (by omega)), adU_o (ne_r (by omega)), adU_o (ne_r (by omega))]) hFx
  refine c_at O SC fx rfl ⟨by decide, by decide, Nat.le_refl _, Nat.le_refl _⟩ (lsU hl (by simp) adU_e) (vs1 (by simp)) ?_
  refine mw_aload_n (dT d0_init 22 rfl) rfl (by decide) ?_
  refine mw_callVV mv_0_clear cl_0_27 (by decide) (dT d0_init 23 rfl) (as := []) rfl rfl (k0_clearB (K := fun h7 => _ ∧ iB b h7) (fun h7 f a b c => ⟨f, a, b, c⟩)) (fun h7 f7 => ?_)
  rintro G rfl V H locs ls2 hP hS hL v1 v2
  have ee : ((((((ids ++ [(2, b)]) ++ [(3, b)]) ++ [(4, b)]) ++ [(5, b)]) ++ [(6, b)]) ++ [(1, b)]) = ids ++ nB b := by simp
  have hD9 := V.2.2.2.2.1 h7
  have hP9 : va_P D vwCl (mW cA (adU (adU (adU (adU (adU (adU ad 2 b w2) 3 b w3) 4 b w4) 5 b w5) 6 b w6) 1 b a) (((((((ids ++ [(2, b)]) ++ [(3, b)]) ++ [(4, b)]) ++ [(5, b)]) ++ [(6, b)]) ++ [(1, b)])) h7) H := hP
  have hD9 : va_D _ (mW cA (adU (adU (adU (adU (adU (adU ad 2 b w2) 3 b w3) 4 b w4) 5 b w5) 6 b w6) 1 b a) (((((((ids ++ [(2, b)]) ++ [(3, b)]) ++ [(4, b)]) ++ [(5, b)]) ++ [(6, b)]) ++ [(1, b)])) h7) := hD9
  rw [ee] at hP9 hD9
  refine c_fin O hP9 hD9 hS (fun r i hz => ?_) adU_e f7.2 (dT d0_init 24 rfl).1
  have z : ∀ k : Nat, (k, b) ∈ nB b → (r, i) ≠ (k, b) := fun k hk e => hz (by rw [e]; exact hk)
  have f8 := f7.1 r i (fun w => by
    obtain ⟨w1, w2, rfl⟩ := w
    have : r = 1 ∨ r = 2 ∨ r = 3 ∨ r = 4 ∨ r = 5 ∨ r = 6 := by omega
    rcases this with rfl | rfl | rfl | rfl | rfl | rfl <;> exact hz (by simp))
  refine ⟨?_, ?_⟩
  · rw [adU_o (z 1 (by simp)), adU_o (z 6 (by simp)), adU_o (z 5 (by simp)), adU_o (z 4 (by simp)), adU_o (z 3 (by simp)), adU_o (z 2 (by simp))]
  · rw [f8, rs_o (z 1 (by simp)), rs_o (z 6 (by simp)), rs_o (z 5 (by simp)), rs_o (z 4 (by simp)), rs_o (z 3 (by simp)), rs_o (z 2 (by simp))]
abbrev nP (b : Int) : List (Nat × Int) := [(8, b), (9, b), (10, b), (11, b), (7, b)]
/-- a fresh plan -/
def iP (b : Int) (h : mH) : Prop := h 7 b 0 = 0 ∧ h 7 b 1 = 10 ∧ h 7 b 2 = 0
theorem k3_clearB {h : mH} {K : mH → Prop} {b : Int} (k : ∀ h2, (∀ q c, ((q, c) : Nat × Int) ≠ (7, b) → h2 q c = h q c) → iP b h2 → K h2) : OkV M3_clear [mR 7 b] h K := by
  refine s3_clear ?_
  rintro _ rfl _ rfl _ rfl
  refine k _ (fun q c hqc => ?_) ⟨?_, ?_, mSet_e⟩
  · have cc : ∀ (G : mH) (a v : Int), mSet G 7 b a v q c = G q c := by
      intro G a v
      funext x
      unfold mSet
      rw [if_neg (fun w => hqc (by rw [w.1, w.2.1]))]
    rw [cc, cc, cc]
  · rw [mSet_kk (by decide), mSet_kk (by decide), mSet_e]
  · rw [mSet_kk (by decide), mSet_e]
abbrev nT : List (Nat × Int) := [(21, 0), (22, 0), (23, 0), (20, 0)]
abbrev nF (b : Int) : List (Nat × Int) := [(13, b), (14, b), (15, b), (16, b), (17, b), (12, b)]
abbrev nC : List (Nat × Int) := [(19, 0), (18, 0)]
/-- a reference field of what is whole -/
theorem c_get {p : Program} {l : Launch} {e : Env} {R : Room} {s : State} {m : MethodId} {args : Array Value} {below : List Frame} {meth : Method} {c : Code} {Q : State → Prop} {M : mMs} {D : va_G} {cA : Nat → ClassId} {A : Nat → Prop} {ls : Array Slot} (O : cOk M p R s m args meth c D cA A) {pc idx ci k r cells slots : Nat} {i : Int} {x : Nat} {q : vw_C} {rest : List Value} {fds : List mFd} {fd : Nat × (Int → Int)} {op : va_W} {ad : Nat → Int → Nat} {ids : List (Nat × Int)} {h : mH} {H : Heap} {locs : List Loc} (S : cSt D cA A s.heap op ad ids h H locs) (hm : (r, i) ∈ ids) (hx : ad r i = x) (hr : mT r = .inr (ci, fds)) (hk : fds[k]? = some (some fd)) (hq : vwCl[ci]? = some q) (hkq : k < q.2.2) (hfl : Cond.fieldLink M.1.cls idx (q.2.1 k).1 (q.2.1 k).2.1 (q.2.1 k).2.2.1 ∈ mTbl) (hd : decode M.2.1 pc = .ok (.getfield idx, 3)) (kk : W p l e R s m args below meth c H locs cells slots Q (F0 m (pc + 3) ls (.ref (ad fd.1 (fd.2 i)) :: rest))) : W p l e R s m args below meth c H locs cells slots Q (F0 m pc ls (.ref x :: rest)) := by
  obtain ⟨hP, hD, hS, hC⟩ := S
  have hw : (ad r i, mEnt cA ad h (r, i)) ∈ op ++ mW cA ad ids h := List.mem_append_right _ (List.mem_map.mpr ⟨(r, i), hm, rfl⟩)
  obtain ⟨z, hz⟩ := List.getElem?_of_mem hw
  rw [mEnt_inr hr] at hz
  rw [← hx]
  exact va_get O.1.1 O.1.2.1 O.1.2.2.2.2 (mLay ci q hq) O.1.2.2.2.1 O.2.2.1 hP z hz hq k hkq (O.1.2.2.2.2 _ hfl) (fun _ z => z) (mFs_getR hk) hd kk
theorem ct_plan (b : Int) : CtOk M3_init 7 b 3 [.int 0, .int 0, .int 0, .null, .null, .null, .null] [] (nP b) [] (iP b) 4 16 := by
  intro l D cA ad ids sz a h hC hN hne h27
  have h27 : ∀ j, (27, j) ∉ ids := h27.resolve_right (by decide)
  refine va_MetF (cc := cX3_init) (maxL := 1) (ret := none) (ws' := mTbl) rfl rfl ?_
  intro p e s m args below meth c s₁ B hml hv
  obtain ⟨rfl, hsz, hP, hD0, hFx, hAO⟩ := hv
  subst hsz
  have hts := atoms_spec (ws := mWs M3_init) B.pre
  have hD := hD0.self (sz := s.heap.size)
  have O : cOk M3_init p (cRoom 1 4 16) s m _ meth c D cA (va_A ([(a, Sum.inr (3, [.int 0, .int 0, .int 0, .null, .null, .null, .null]))] ++ mW cA ad ids h) s.heap.size) := ⟨⟨B.exec, B.bytes, hml, findClass_of_methodNamed B.named, fun w hw => hts w (List.mem_cons_of_mem _ hw)⟩, ⟨B.returns, B.notSynchronized, (name_of_methodNamed B.named B.method).1⟩, hFx.1, fun q hq => Or.inr hq⟩
  have S0 : cSt D cA _ s.heap [(a, Sum.inr (3, [.int 0, .int 0, .int 0, .null, .null, .null, .null]))] ad ids h s.heap [] := ⟨hP, hD, va_S.rf, hC⟩
  have hl := lv_entry ([.ref a]) (n := 1) (Nat.le_of_ble_eq_true rfl)
  show W _ _ _ _ _ _ _ _ _ _ _ _ _ _ _ (entryFrame m ([.ref a] : List Value).toArray 1)
  rw [lg_entry_eq]
  generalize (lg_sl ([.ref a]) ++ List.replicate (1 - (lg_sl ([.ref a])).length) Slot.unset).toArray = ls at hl ⊢
  have hl : lv_has ls 1 [(0, .ref a)] := hl
  refine lv_aload_n O.1.1 O.1.2.1 (dT d3_init 0 rfl).1 rfl (lv_at hl 0 rfl) ?_
  refine c_objI O hl.1 ol_3 oi_1 oi_2 ⟨by decide, by decide⟩ (dT d3_init 1 rfl).1 ?_
  refine lv_aload_n O.1.1 O.1.2.1 (dT d3_init 2 rfl).1 rfl (lv_at hl 0 rfl) ?_
  refine lv_iconst O.1.1 O.1.2.1 (dT d3_init 3 rfl).1 rfl ?_
  refine c_arr O (n := 4) (r := 8) (i := b) (k := 3) (kx := 1) (atype := .int) (ty := .int) S0 rfl ka_int (fun _ => rfl) (fun _ _ z => z) (fun cI ad h e => arr_i cI ad h 8 b 4 e) rfl (hN _ (by simp)) (by decide) (by decide) (Nat.le_of_ble_eq_true rfl) (Nat.le_of_ble_eq_true rfl) (Nat.le_of_ble_eq_true rfl) (dT d3_init 4 rfl).1 (dT d3_init 5 rfl).1 rfl (by decide) cf_3_9 rfl rfl rfl (fun x => ⟨rfl, rfl⟩) (Nat.le_of_ble_eq_true rfl) (fun w8 H8 l8 S8 => ?_)
  refine lv_aload_n O.1.1 O.1.2.1 (dT d3_init 6 rfl).1 rfl (lv_at hl 0 rfl) ?_
  refine lv_iconst O.1.1 O.1.2.1 (dT d3_init 7 rfl).1 rfl ?_
  refine c_arr O (n := 4) (r := 9) (i := b) (k := 4) (kx := 1) (atype := .int) (ty := .int) S8 rfl ka_int (fun _ => rfl) (fun _ _ z => z) (fun cI ad h e => arr_i cI ad h 9 b 4 e) rfl (nin (hN _ (by simp)) (ne_r (by decide))) (by decide) (by decide) (Nat.le_of_ble_eq_true rfl) (Nat.le_of_ble_eq_true rfl) (Nat.le_of_ble_eq_true rfl) (dT d3_init 8 rfl).1 (dT d3_init 9 rfl).1 rfl (by decide) cf_3_15 rfl rfl rfl (fun x => ⟨rfl, rfl⟩) (Nat.le_of_ble_eq_true rfl) (fun w9 H9 l9 S9 => ?_)
  refine lv_aload_n O.1.1 O.1.2.1 (dT d3_init 10 rfl).1 rfl (lv_at hl 0 rfl) ?_
  refine lv_iconst O.1.1 O.1.2.1 (dT d3_init 11 rfl).1 rfl ?_
  refine c_arr O (n := 4) (r := 10) (i := b) (k := 5) (kx := 1) (atype := .int) (ty := .int) S9 rfl ka_int (fun _ => rfl) (fun _ _ z => z) (fun cI ad h e => arr_i cI ad h 10 b 4 e) rfl (nin (nin (hN _ (by simp)) (ne_r (by decide))) (ne_r (by decide))) (by decide) (by decide) (Nat.le_of_ble_eq_true rfl) (Nat.le_of_ble_eq_true rfl) (Nat.le_of_ble_eq_true rfl) (dT d3_init 12 rfl).1 (dT d3_init 13 rfl).1 rfl (by decide) cf_3_18 rfl rfl rfl (fun x => ⟨rfl, rfl⟩) (Nat.le_of_ble_eq_true rfl) (fun w10 H10 l10 S10 => ?_)
  refine lv_aload_n O.1.1 O.1.2.1 (dT d3_init 14 rfl).1 rfl (lv_at hl 0 rfl) ?_
  refine lv_iconst O.1.1 O.1.2.1 (dT d3_init 15 rfl).1 rfl ?_
  refine c_arr O (n := 4) (r := 11) (i := b) (k := 6) (kx := 1) (atype := .int) (ty := .int) S10 rfl ka_int (fun _ => rfl) (fun _ _ z => z) (fun cI ad h e => arr_i cI ad h 11 b 4 e) rfl (nin (nin (nin (hN _ (by simp)) (ne_r (by decide))) (ne_r (by decide))) (ne_r (by decide))) (by decide) (by decide) (Nat.le_of_ble_eq_true rfl) (Nat.le_of_ble_eq_true rfl) (Nat.le_of_ble_eq_true rfl) (dT d3_init 16 rfl).1 (dT d3_init 17 rfl).1 rfl (by decide) cf_3_21 rfl rfl rfl (fun x => ⟨rfl, rfl⟩) (Nat.le_of_ble_eq_true rfl) (fun w11 H11 l11 S11 => ?_)
  have SC := c_close S11 (r0 := 7) (i0 := b) (g := fun _ => 0) rfl (nin (nin (nin (nin (hN _ (by simp)) (ne_r (by decide))) (ne_r (by decide))) (ne_r (by decide))) (ne_r (by decide))) (Or.inr (by decide)) (by simp [mFs, rs, adU]) (by intro t ht; simp [tgs, mT] at ht; rcases ht with rfl | rfl | rfl | rfl <;> simp)
  have fx : mFx D cA (adU (adU (adU (adU (adU ad 8 b w8) 9 b w9) 10 b w10) 11 b w11) 7 b a) _ s s.heap := mFx_ad (fun r i hr => by rw [adU_o (ne_r (by omega)), adU_o (ne_r (by omega)), adU_o (ne_r (by omega)), adU_o (ne_r (by omega)), adU_o (ne_r (by omega))]) hFx
  refine c_at O SC fx rfl ⟨by decide, by decide, Nat.le_refl _, Nat.le_refl _⟩ (lsU hl (by simp) adU_e) (vs1 (by simp)) ?_
  refine mw_aload_n (dT d3_init 18 rfl) rfl (by decide) ?_
  refine mw_callVV mv_3_clear cl_3_24 (by decide) (dT d3_init 19 rfl) (as := []) rfl rfl (k3_clearB (K := fun h7 => _ ∧ iP b h7) (fun h7 f a => ⟨f, a⟩)) (fun h7 f7 => ?_)
  rintro G rfl V H locs ls2 hP hS hL v1 v2
  have ee : (((((ids ++ [(8, b)]) ++ [(9, b)]) ++ [(10, b)]) ++ [(11, b)]) ++ [(7, b)]) = ids ++ nP b := by simp
  have hP9 : va_P D vwCl (mW cA (adU (adU (adU (adU (adU ad 8 b w8) 9 b w9) 10 b w10) 11 b w11) 7 b a) (((((ids ++ [(8, b)]) ++ [(9, b)]) ++ [(10, b)]) ++ [(11, b)]) ++ [(7, b)]) h7) H := hP
  have hD9 : va_D _ (mW cA (adU (adU (adU (adU (adU ad 8 b w8) 9 b w9) 10 b w10) 11 b w11) 7 b a) (((((ids ++ [(8, b)]) ++ [(9, b)]) ++ [(10, b)]) ++ [(11, b)]) ++ [(7, b)]) h7) := V.2.2.2.2.1 h7
  rw [ee] at hP9 hD9
  refine c_fin O hP9 hD9 hS (fun r i hz => ?_) adU_e f7.2 (dT d3_init 20 rfl).1
  have z : ∀ k : Nat, (k, b) ∈ nP b → (r, i) ≠ (k, b) := fun k hk e => hz (by rw [e]; exact hk)
  have f8 := f7.1 r i (z 7 (by simp))
  refine ⟨?_, ?_⟩
  · rw [adU_o (z 7 (by simp)), adU_o (z 11 (by simp)), adU_o (z 10 (by simp)), adU_o (z 9 (by simp)), adU_o (z 8 (by simp))]
  · rw [f8, rs_o (z 7 (by simp)), rs_o (z 11 (by simp)), rs_o (z 10 (by simp)), rs_o (z 9 (by simp)), rs_o (z 8 (by simp))]
theorem ct_tokens : CtOk M5_init 20 0 5 [.null, .null, .null, .int 0, .int 0] [] nT [] (fun _ => True) 3 2703 := by
  intro l D cA ad ids sz a h hC hN hne h27
  have h27 : ∀ j, (27, j) ∉ ids := h27.resolve_right (by decide)
  refine va_MetF (cc := cX5_init) (maxL := 1) (ret := none) (ws' := mTbl) rfl rfl ?_
  intro p e s m args below meth c s₁ B hml hv
  obtain ⟨rfl, hsz, hP, hD0, hFx, hAO⟩ := hv
  subst hsz
  have hts := atoms_spec (ws := mWs M5_init) B.pre
  have hD := hD0.self (sz := s.heap.size)
  have O : cOk M5_init p (cRoom 1 3 2703) s m _ meth c D cA (va_A ([(a, Sum.inr (5, [.null, .null, .null, .int 0, .int 0]))] ++ mW cA ad ids h) s.heap.size) := ⟨⟨B.exec, B.bytes, hml, findClass_of_methodNamed B.named, fun w hw => hts w (List.mem_cons_of_mem _ hw)⟩, ⟨B.returns, B.notSynchronized, (name_of_methodNamed B.named B.method).1⟩, hFx.1, fun q hq => Or.inr hq⟩
  have S0 : cSt D cA _ s.heap [(a, Sum.inr (5, [.null, .null, .null, .int 0, .int 0]))] ad ids h s.heap [] := ⟨hP, hD, va_S.rf, hC⟩
  have hl := lv_entry ([.ref a]) (n := 1) (Nat.le_of_ble_eq_true rfl)
  show W _ _ _ _ _ _ _ _ _ _ _ _ _ _ _ (entryFrame m ([.ref a] : List Value).toArray 1)
  rw [lg_entry_eq]
  generalize (lg_sl ([.ref a]) ++ List.replicate (1 - (lg_sl ([.ref a])).length) Slot.unset).toArray = ls at hl ⊢
  have hl : lv_has ls 1 [(0, .ref a)] := hl
  refine lv_aload_n O.1.1 O.1.2.1 (dT d5_init 0 rfl).1 rfl (lv_at hl 0 rfl) ?_
  refine c_objI O hl.1 ol_5 oi_1 oi_2 ⟨by decide, by decide⟩ (dT d5_init 1 rfl).1 ?_
  refine lv_aload_n O.1.1 O.1.2.1 (dT d5_init 2 rfl).1 rfl (lv_at hl 0 rfl) ?_
  refine lv_sipush O.1.1 O.1.2.1 (dT d5_init 3 rfl).1 rfl ?_
  refine c_arr O (n := 901) (r := 21) (i := 0) (k := 0) (kx := 1) (atype := .int) (ty := .int) S0 rfl ka_int (fun _ => rfl) (fun _ _ z => z) (fun cI ad h e => arr_i cI ad h 21 0 901 e) rfl (hN _ (by simp)) (by decide) (by decide) (Nat.le_of_ble_eq_true rfl) (Nat.le_of_ble_eq_true rfl) (Nat.le_of_ble_eq_true rfl) (dT d5_init 4 rfl).1 (dT d5_init 5 rfl).1 rfl (by decide) cf_5_9 rfl rfl rfl (fun x => ⟨rfl, rfl⟩) (Nat.le_of_ble_eq_true rfl) (fun w21 H21 l21 S21 => ?_)
  refine lv_aload_n O.1.1 O.1.2.1 (dT d5_init 6 rfl).1 rfl (lv_at hl 0 rfl) ?_
  refine lv_sipush O.1.1 O.1.2.1 (dT d5_init 7 rfl).1 rfl ?_
  refine c_arr O (n := 901) (r := 22) (i := 0) (k := 1) (kx := 1) (atype := .int) (ty := .int) S21 rfl ka_int (fun _ => rfl) (fun _ _ z => z) (fun cI ad h e => arr_i cI ad h 22 0 901 e) rfl (nin (hN _ (by simp)) (ne_r (by decide))) (by decide) (by decide) (Nat.le_of_ble_eq_true rfl) (Nat.le_of_ble_eq_true rfl) (Nat.le_of_ble_eq_true rfl) (dT d5_init 8 rfl).1 (dT d5_init 9 rfl).1 rfl (by decide) cf_5_15 rfl rfl rfl (fun x => ⟨rfl, rfl⟩) (Nat.le_of_ble_eq_true rfl) (fun w22 H22 l22 S22 => ?_)
  refine lv_aload_n O.1.1 O.1.2.1 (dT d5_init 10 rfl).1 rfl (lv_at hl 0 rfl) ?_
  refine lv_sipush O.1.1 O.1.2.1 (dT d5_init 11 rfl).1 rfl ?_
  refine c_arr O (n := 901) (r := 23) (i := 0) (k := 2) (kx := 1) (atype := .int) (ty := .int) S22 rfl ka_int (fun _ => rfl) (fun _ _ z => z) (fun cI ad h e => arr_i cI ad h 23 0 901 e) rfl (nin (nin (hN _ (by simp)) (ne_r (by decide))) (ne_r (by decide))) (by decide) (by decide) (Nat.le_of_ble_eq_true rfl) (Nat.le_of_ble_eq_true rfl) (Nat.le_of_ble_eq_true rfl) (dT d5_init 12 rfl).1 (dT d5_init 13 rfl).1 rfl (by decide) cf_5_18 rfl rfl rfl (fun x => ⟨rfl, rfl⟩) (Nat.le_of_ble_eq_true rfl) (fun w23 H23 l23 S23 => ?_)
  have SC := c_close S23 (r0 := 20) (i0 := 0) (g := fun _ => 0) rfl (nin (nin (nin (hN _ (by simp)) (ne_r (by decide))) (ne_r (by decide))) (ne_r (by decide))) (Or.inr (by decide)) (by simp [mFs, rs, adU]) (by intro t ht; simp [tgs, mT] at ht; rcases ht with rfl | rfl | rfl <;> simp)
  have ee : ((((ids ++ [(21, 0)]) ++ [(22, 0)]) ++ [(23, 0)]) ++ [(20, 0)]) = ids ++ nT := by simp
  obtain ⟨hP9, hD9, hS9, hC9⟩ := SC
  have hP9 : va_P D vwCl (mW cA (adU (adU (adU (adU ad 21 0 w21) 22 0 w22) 23 0 w23) 20 0 a) ((((ids ++ [(21, 0)]) ++ [(22, 0)]) ++ [(23, 0)]) ++ [(20, 0)]) _) _ := hP9
  have hD9 : va_D _ (mW cA (adU (adU (adU (adU ad 21 0 w21) 22 0 w22) 23 0 w23) 20 0 a) ((((ids ++ [(21, 0)]) ++ [(22, 0)]) ++ [(23, 0)]) ++ [(20, 0)]) _) := hD9
  rw [ee] at hP9 hD9
  refine c_fin O hP9 hD9 hS9 (fun r i hz => ?_) adU_e (trivial) (dT d5_init 14 rfl).1
  have z : ∀ k : Nat, (k, 0) ∈ nT → (r, i) ≠ (k, 0) := fun k hk e => hz (by rw [e]; exact hk)
  refine ⟨?_, ?_⟩
  · rw [adU_o (z 20 (by simp)), adU_o (z 23 (by simp)), adU_o (z 22 (by simp)), adU_o (z 21 (by simp))]
  · rw [rs_o (z 20 (by simp)), rs_o (z 23 (by simp)), rs_o (z 22 (by simp)), rs_o (z 21 (by simp))]
theorem ct_fit (b : Int) : CtOk M2_init 12 b 2 [.null, .null, .null, .null, .null, .null, .null] [mR 7 0, mR 1 b] (nF b) [(7, 0), (1, b)] (fun _ => True) 5 168 := by
  intro l D cA ad ids sz a h hC hN hne h27
  have h27 : ∀ j, (27, j) ∉ ids := h27.resolve_right (by decide)
  refine va_MetF (cc := cX2_init) (maxL := 3) (ret := none) (ws' := mTbl) rfl rfl ?_
  intro p e s m args below meth c s₁ B hml hv
  obtain ⟨rfl, hsz, hP, hD0, hFx, hAO⟩ := hv
  subst hsz
  have hts := atoms_spec (ws := mWs M2_init) B.pre
  have hD := hD0.self (sz := s.heap.size)
  have O : cOk M2_init p (cRoom 1 5 168) s m _ meth c D cA (va_A ([(a, Sum.inr (2, [.null, .null, .null, .null, .null, .null, .null]))] ++ mW cA ad ids h) s.heap.size) := ⟨⟨B.exec, B.bytes, hml, findClass_of_methodNamed B.named, fun w hw => hts w (List.mem_cons_of_mem _ hw)⟩, ⟨B.returns, B.notSynchronized, (name_of_methodNamed B.named B.method).1⟩, hFx.1, fun q hq => Or.inr hq⟩
  have S0 : cSt D cA _ s.heap [(a, Sum.inr (2, [.null, .null, .null, .null, .null, .null, .null]))] ad ids h s.heap [] := ⟨hP, hD, va_S.rf, hC⟩
  have hl := lv_entry ([.ref a, .ref (ad 7 0), .ref (ad 1 b)]) (n := 3) (Nat.le_of_ble_eq_true rfl)
  show W _ _ _ _ _ _ _ _ _ _ _ _ _ _ _ (entryFrame m ([.ref a, .ref (ad 7 0), .ref (ad 1 b)] : List Value).toArray 3)
  rw [lg_entry_eq]
  generalize (lg_sl ([.ref a, .ref (ad 7 0), .ref (ad 1 b)]) ++ List.replicate (3 - (lg_sl ([.ref a, .ref (ad 7 0), .ref (ad 1 b)])).length) Slot.unset).toArray = ls at hl ⊢
  have hl : lv_has ls 3 [(0, .ref a), (1, .ref (ad 7 0)), (2, .ref (ad 1 b))] := hl
  refine lv_aload_n O.1.1 O.1.2.1 (dT d2_init 0 rfl).1 rfl (lv_at hl 0 rfl) ?_
  refine c_objI O hl.1 ol_2 oi_1 oi_2 ⟨by decide, by decide⟩ (dT d2_init 1 rfl).1 ?_
  refine lv_aload_n O.1.1 O.1.2.1 (dT d2_init 2 rfl).1 rfl (lv_at hl 0 rfl) ?_
  refine lv_bipush O.1.1 O.1.2.1 (dT d2_init 3 rfl).1 rfl ?_
  refine c_arr O (n := 40) (r := 13) (i := b) (k := 2) (kx := 2) (atype := .long) (ty := .long) S0 rfl ka_long (fun _ => rfl) (fun _ _ z => z) (fun cI ad h e => arr_l cI ad h 13 b 40 e) rfl (hN _ (by simp)) (by decide) (by decide) (Nat.le_of_ble_eq_true rfl) (Nat.le_of_ble_eq_true rfl) (Nat.le_of_ble_eq_true rfl) (dT d2_init 4 rfl).1 (dT d2_init 5 rfl).1 rfl (by decide) cf_2_9 rfl rfl rfl (fun x => ⟨rfl, rfl⟩) (Nat.le_of_ble_eq_true rfl) (fun w13 H13 l13 S13 => ?_)
  refine lv_aload_n O.1.1 O.1.2.1 (dT d2_init 6 rfl).1 rfl (lv_at hl 0 rfl) ?_
  refine lv_bipush O.1.1 O.1.2.1 (dT d2_init 7 rfl).1 rfl ?_
  refine c_arr O (n := 32) (r := 14) (i := b) (k := 3) (kx := 2) (atype := .long) (ty := .long) S13 rfl ka_long (fun _ => rfl) (fun _ _ z => z) (fun cI ad h e => arr_l cI ad h 14 b 32 e) rfl (nin (hN _ (by simp)) (ne_r (by decide))) (by decide) (by decide) (Nat.le_of_ble_eq_true rfl) (Nat.le_of_ble_eq_true rfl) (Nat.le_of_ble_eq_true rfl) (dT d2_init 8 rfl).1 (dT d2_init 9 rfl).1 rfl (by decide) cf_2_15 rfl rfl rfl (fun x => ⟨rfl, rfl⟩) (Nat.le_of_ble_eq_true rfl) (fun w14 H14 l14 S14 => ?_)
  refine lv_aload_n O.1.1 O.1.2.1 (dT d2_init 10 rfl).1 rfl (lv_at hl 0 rfl) ?_
  refine lv_bipush O.1.1 O.1.2.1 (dT d2_init 11 rfl).1 rfl ?_
  refine c_arr O (n := 32) (r := 15) (i := b) (k := 4) (kx := 2) (atype := .long) (ty := .long) S14 rfl ka_long (fun _ => rfl) (fun _ _ z => z) (fun cI ad h e => arr_l cI ad h 15 b 32 e) rfl (nin (nin (hN _ (by simp)) (ne_r (by decide))) (ne_r (by decide))) (by decide) (by decide) (Nat.le_of_ble_eq_true rfl) (Nat.le_of_ble_eq_true rfl) (Nat.le_of_ble_eq_true rfl) (dT d2_init 12 rfl).1 (dT d2_init 13 rfl).1 rfl (by decide) cf_2_18 rfl rfl rfl (fun x => ⟨rfl, rfl⟩) (Nat.le_of_ble_eq_true rfl) (fun w15 H15 l15 S15 => ?_)
  refine lv_aload_n O.1.1 O.1.2.1 (dT d2_init 14 rfl).1 rfl (lv_at hl 0 rfl) ?_
  refine lv_bipush O.1.1 O.1.2.1 (dT d2_init 15 rfl).1 rfl ?_
  refine c_arr O (n := 32) (r := 16) (i := b) (k := 5) (kx := 2) (atype := .long) (ty := .long) S15 rfl ka_long (fun _ => rfl) (fun _ _ z => z) (fun cI ad h e => arr_l cI ad h 16 b 32 e) rfl (nin (nin (nin (hN _ (by simp)) (ne_r (by decide))) (ne_r (by decide))) (ne_r (by decide))) (by decide) (by decide) (Nat.le_of_ble_eq_true rfl) (Nat.le_of_ble_eq_true rfl) (Nat.le_of_ble_eq_true rfl) (dT d2_init 16 rfl).1 (dT d2_init 17 rfl).1 rfl (by decide) cf_2_21 rfl rfl rfl (fun x => ⟨rfl, rfl⟩) (Nat.le_of_ble_eq_true rfl) (fun w16 H16 l16 S16 => ?_)
  refine lv_aload_n O.1.1 O.1.2.1 (dT d2_init 18 rfl).1 rfl (lv_at hl 0 rfl) ?_
  refine lv_bipush O.1.1 O.1.2.1 (dT d2_init 19 rfl).1 rfl ?_
  refine c_arr O (n := 32) (r := 17) (i := b) (k := 6) (kx := 1) (atype := .int) (ty := .int) S16 rfl ka_int (fun _ => rfl) (fun _ _ z => z) (fun cI ad h e => arr_i cI ad h 17 b 32 e) rfl (nin (nin (nin (nin (hN _ (by simp)) (ne_r (by decide))) (ne_r (by decide))) (ne_r (by decide))) (ne_r (by decide))) (by decide) (by decide) (Nat.le_of_ble_eq_true rfl) (Nat.le_of_ble_eq_true rfl) (Nat.le_of_ble_eq_true rfl) (dT d2_init 20 rfl).1 (dT d2_init 21 rfl).1 rfl (by decide) cf_2_24 rfl rfl rfl (fun x => ⟨rfl, rfl⟩) (Nat.le_of_ble_eq_true rfl) (fun w17 H17 l17 S17 => ?_)
  refine lv_aload_n O.1.1 O.1.2.1 (dT d2_init 22 rfl).1 rfl (lv_at hl 0 rfl) ?_
  refine lv_aload_n O.1.1 O.1.2.1 (dT d2_init 23 rfl).1 rfl (lv_at hl 1 rfl) ?_
  refine c_put O (k := 0) S17 rfl (by decide) cf_2_28 rfl rfl ⟨rfl, rfl⟩ (Nat.le_of_ble_eq_true rfl) (dT d2_init 24 rfl).1 (fun Ha la Sa => ?_)
  refine lv_aload_n O.1.1 O.1.2.1 (dT d2_init 25 rfl).1 rfl (lv_at hl 0 rfl) ?_
  refine lv_aload_n O.1.1 O.1.2.1 (dT d2_init 26 rfl).1 rfl (lv_at hl 2 rfl) ?_
  refine c_put O (k := 1) Sa rfl (by decide) cf_2_32 rfl rfl ⟨rfl, rfl⟩ (Nat.le_of_ble_eq_true rfl) (dT d2_init 27 rfl).1 (fun Hb lb Sb => ?_)
  have n1 := hne (7, 0) (by simp)
  have n2 := hne (1, b) (by simp)
  have SC := c_close Sb (r0 := 12) (i0 := b) (g := fun _ => 0) rfl (nin (nin (nin (nin (nin (hN _ (by simp)) (ne_r (by decide))) (ne_r (by decide))) (ne_r (by decide))) (ne_r (by decide))) (ne_r (by decide))) (Or.inr (by decide)) (by simp [mFs, rs, adU]) (by intro t ht; simp [tgs, mT] at ht; rcases ht with rfl | rfl | rfl | rfl | rfl | rfl | rfl <;> simp [n1, n2])
  have ee : ((((((ids ++ [(13, b)]) ++ [(14, b)]) ++ [(15, b)]) ++ [(16, b)]) ++ [(17, b)]) ++ [(12, b)]) = ids ++ (nF b) := by simp
  obtain ⟨hP9, hD9, hS9, hC9⟩ := SC
  have hP9 : va_P D vwCl (mW cA (adU (adU (adU (adU (adU (adU ad 13 b w13) 14 b w14) 15 b w15) 16 b w16) 17 b w17) 12 b a) ((((((ids ++ [(13, b)]) ++ [(14, b)]) ++ [(15, b)]) ++ [(16, b)]) ++ [(17, b)]) ++ [(12, b)]) _) _ := hP9
  have hD9 : va_D _ (mW cA (adU (adU (adU (adU (adU (adU ad 13 b w13) 14 b w14) 15 b w15) 16 b w16) 17 b w17) 12 b a) ((((((ids ++ [(13, b)]) ++ [(14, b)]) ++ [(15, b)]) ++ [(16, b)]) ++ [(17, b)]) ++ [(12, b)]) _) := hD9
  rw [ee] at hP9 hD9
  refine c_fin O hP9 hD9 hS9 (fun r i hz => ?_) adU_e (trivial) (dT d2_init 28 rfl).1
  have z : ∀ k : Nat, (k, b) ∈ (nF b) → (r, i) ≠ (k, b) := fun k hk e => hz (by rw [e]; exact hk)
  refine ⟨?_, ?_⟩
  · rw [adU_o (z 12 (by simp)), adU_o (z 17 (by simp)), adU_o (z 16 (by simp)), adU_o (z 15 (by simp)), adU_o (z 14 (by simp)), adU_o (z 13 (by simp))]
  · rw [rs_o (z 12 (by simp)), rs_o (z 17 (by simp)), rs_o (z 16 (by simp)), rs_o (z 15 (by simp)), rs_o (z 14 (by simp)), rs_o (z 13 (by simp))]
theorem ct_capping : CtOk M1_init 18 0 1 [.null, .null, .null, .int 0, .int 0] [mR 12 0] nC [(12, 0), (1, 0)] (fun _ => True) 1 40 := by
  intro l D cA ad ids sz a h hC hN hne h27
  have h27 : ∀ j, (27, j) ∉ ids := h27.resolve_right (by decide)
  refine va_MetF (cc := cX1_init) (maxL := 2) (ret := none) (ws' := mTbl) rfl rfl ?_
  intro p e s m args below meth c s₁ B hml hv
  obtain ⟨rfl, hsz, hP, hD0, hFx, hAO⟩ := hv
  subst hsz
  have hts := atoms_spec (ws := mWs M1_init) B.pre
  have hD := hD0.self (sz := s.heap.size)
  have O : cOk M1_init p (cRoom 1 1 40) s m _ meth c D cA (va_A ([(a, Sum.inr (1, [.null, .null, .null, .int 0, .int 0]))] ++ mW cA ad ids h) s.heap.size) := ⟨⟨B.exec, B.bytes, hml, findClass_of_methodNamed B.named, fun w hw => hts w (List.mem_cons_of_mem _ hw)⟩, ⟨B.returns, B.notSynchronized, (name_of_methodNamed B.named B.method).1⟩, hFx.1, fun q hq => Or.inr hq⟩
  have S0 : cSt D cA _ s.heap [(a, Sum.inr (1, [.null, .null, .null, .int 0, .int 0]))] ad ids h s.heap [] := ⟨hP, hD, va_S.rf, hC⟩
  have hl := lv_entry ([.ref a, .ref (ad 12 0)]) (n := 2) (Nat.le_of_ble_eq_true rfl)
  show W _ _ _ _ _ _ _ _ _ _ _ _ _ _ _ (entryFrame m ([.ref a, .ref (ad 12 0)] : List Value).toArray 2)
  rw [lg_entry_eq]
  generalize (lg_sl ([.ref a, .ref (ad 12 0)]) ++ List.replicate (2 - (lg_sl ([.ref a, .ref (ad 12 0)])).length) Slot.unset).toArray = ls at hl ⊢
  have hl : lv_has ls 2 [(0, .ref a), (1, .ref (ad 12 0))] := hl
  refine lv_aload_n O.1.1 O.1.2.1 (dT d1_init 0 rfl).1 rfl (lv_at hl 0 rfl) ?_
  refine c_objI O hl.1 ol_1 oi_1 oi_2 ⟨by decide, by decide⟩ (dT d1_init 1 rfl).1 ?_
  refine lv_aload_n O.1.1 O.1.2.1 (dT d1_init 2 rfl).1 rfl (lv_at hl 0 rfl) ?_
  refine lv_bipush O.1.1 O.1.2.1 (dT d1_init 3 rfl).1 rfl ?_
  refine c_arr O (n := 40) (r := 19) (i := 0) (k := 2) (kx := 2) (atype := .long) (ty := .long) S0 rfl ka_long (fun _ => rfl) (fun _ _ z => z) (fun cI ad h e => arr_l cI ad h 19 0 40 e) rfl (hN _ (by simp)) (by decide) (by decide) (Nat.le_of_ble_eq_true rfl) (Nat.le_of_ble_eq_true rfl) (Nat.le_of_ble_eq_true rfl) (dT d1_init 4 rfl).1 (dT d1_init 5 rfl).1 rfl (by decide) cf_1_9 rfl rfl rfl (fun x => ⟨rfl, rfl⟩) (Nat.le_of_ble_eq_true rfl) (fun w19 H19 l19 S19 => ?_)
  have n1 := hne (12, 0) (by simp)
  have n2 := hne (1, 0) (by simp)
  refine lv_aload_n O.1.1 O.1.2.1 (dT d1_init 6 rfl).1 rfl (lv_at hl 0 rfl) ?_
  refine lv_aload_n O.1.1 O.1.2.1 (dT d1_init 7 rfl).1 rfl (lv_at hl 1 rfl) ?_
  refine c_put O (k := 0) S19 rfl (by decide) cf_1_15 rfl rfl ⟨rfl, rfl⟩ (Nat.le_of_ble_eq_true rfl) (dT d1_init 8 rfl).1 (fun Ha la Sa => ?_)
  refine lv_aload_n O.1.1 O.1.2.1 (dT d1_init 9 rfl).1 rfl (lv_at hl 0 rfl) ?_
  refine lv_aload_n O.1.1 O.1.2.1 (dT d1_init 10 rfl).1 rfl (lv_at hl 1 rfl) ?_
  refine c_get O (r := 12) (i := 0) (k := 1) (ci := 2) Sa (List.mem_append_left _ n1) (by rw [adU_o (ne_r (by decide))]) rfl rfl rfl (by decide) cf_1_19 (dT d1_init 11 rfl).1 ?_
  rw [adU_o (ne_r (by decide))]
  refine c_put O (k := 1) Sa rfl (by decide) cf_1_25 rfl rfl ⟨rfl, rfl⟩ (Nat.le_of_ble_eq_true rfl) (dT d1_init 12 rfl).1 (fun Hb lb Sb => ?_)
  have SC := c_close Sb (r0 := 18) (i0 := 0) (g := fun _ => 0) rfl (nin (hN _ (by simp)) (ne_r (by decide))) (Or.inr (by decide)) (by simp [mFs, rs, adU]) (by intro t ht; simp [tgs, mT] at ht; rcases ht with rfl | rfl | rfl <;> simp [n1, n2])
  have ee : ((ids ++ [(19, 0)]) ++ [(18, 0)]) = ids ++ nC := by simp
  obtain ⟨hP9, hD9, hS9, hC9⟩ := SC
  have hP9 : va_P D vwCl (mW cA (adU (adU ad 19 0 w19) 18 0 a) ((ids ++ [(19, 0)]) ++ [(18, 0)]) _) _ := hP9
  have hD9 : va_D _ (mW cA (adU (adU ad 19 0 w19) 18 0 a) ((ids ++ [(19, 0)]) ++ [(18, 0)]) _) := hD9
  rw [ee] at hP9 hD9
  refine c_fin O hP9 hD9 hS9 (fun r i hz => ?_) adU_e (trivial) (dT d1_init 13 rfl).1
  have z : ∀ k : Nat, (k, 0) ∈ nC → (r, i) ≠ (k, 0) := fun k hk e => hz (by rw [e]; exact hk)
  refine ⟨?_, ?_⟩
  · rw [adU_o (z 18 (by simp)), adU_o (z 19 (by simp))]
  · rw [rs_o (z 18 (by simp)), rs_o (z 19 (by simp))]
end CTOR3
