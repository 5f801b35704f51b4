/-! constructors: the reference, the reader -/
section CTOR4
abbrev nM : List (Nat × Int) := [(31, 0), (32, 0), (33, 0), (34, 0), (35, 0), (36, 0), (37, 0), (38, 0), (39, 0), (40, 0), (41, 0), (42, 0), (43, 0), (44, 0), (45, 0), (30, 0)]
/-- the office as it begins -/
def sg0 : Sg := (p00, fun _ => 0, bgS p00 s00, (0, fun _ => 0), (0, fun _ _ => 0), (0, fun _ => 0), (0, -1))
theorem ct_model : CtOk M7_init 30 0 7 [.int 0, .null, .int 0, .null, .null, .null, .null, .null, .null, .null, .null, .null, .int 0, .int 0, .int 0, .int 0, .int 0, .int 0, .int 0, .int 0, .int 0, .int 0, .null, .null, .null, .null, .int 0, .int 0, .null, .int 0] [] nM [] (fun h => RG h sg0) 15 8478 := by
  intro l D cA ad ids sz a h hC hN hne h27
  refine va_MetF (cc := cX7_init) (maxL := 1) (ret := none) (ws' := mTbl) rfl rfl ?_
  intro p e s m args below meth c s₁ B hml hv
  obtain ⟨rfl, hsz, hP, hD0, hFx, hAO⟩ := hv
  subst hsz
  have hts := atoms_spec (ws := mWs M7_init) B.pre
  have hD := hD0.self (sz := s.heap.size)
  have O : cOk M7_init p (cRoom 2 15 8478) s m _ meth c D cA (va_A ([(a, Sum.inr (7, [.int 0, .null, .int 0, .null, .null, .null, .null, .null, .null, .null, .null, .null, .int 0, .int 0, .int 0, .int 0, .int 0, .int 0, .int 0, .int 0, .int 0, .int 0, .null, .null, .null, .null, .int 0, .int 0, .null, .int 0]))] ++ mW cA ad ids h) s.heap.size) := ⟨⟨B.exec, B.bytes, hml, findClass_of_methodNamed B.named, fun w hw => hts w (List.mem_cons_of_mem _ hw)⟩, ⟨B.returns, B.notSynchronized, (name_of_methodNamed B.named B.method).1⟩, hFx.1, fun q hq => Or.inr hq⟩
  have S0 : cSt D cA _ s.heap [(a, Sum.inr (7, [.int 0, .null, .int 0, .null, .null, .null, .null, .null, .null, .null, .null, .null, .int 0, .int 0, .int 0, .int 0, .int 0, .int 0, .int 0, .int 0, .int 0, .int 0, .null, .null, .null, .null, .int 0, .int 0, .null, .int 0]))] ad ids h s.heap [] := ⟨hP, hD, va_S.rf, hC⟩
  have hl := lv_entry ([.ref a]) (n := 1) (Nat.le_of_ble_eq_true rfl)
  show W _ _ _ _ _ _ _ _ _ _ _ _ _ _ _ (entryFrame m ([.ref a] : List Value).toArray 1)
  rw [lg_entry_eq]
  generalize (lg_sl ([.ref a]) ++ List.replicate (1 - (lg_sl ([.ref a])).length) Slot.unset).toArray = ls at hl ⊢
  have hl : lv_has ls 1 [(0, .ref a)] := hl
  refine lv_aload_n O.1.1 O.1.2.1 (dT d7_init 0 rfl).1 rfl (lv_at hl 0 rfl) ?_
  refine c_objI O hl.1 ol_7 oi_1 oi_2 ⟨by decide, by decide⟩ (dT d7_init 1 rfl).1 ?_
  refine lv_aload_n O.1.1 O.1.2.1 (dT d7_init 2 rfl).1 rfl (lv_at hl 0 rfl) ?_
  refine lv_sipush O.1.1 O.1.2.1 (dT d7_init 3 rfl).1 rfl ?_
  refine c_arr O (n := 900) (r := 31) (i := 0) (k := 1) (kx := 1) (atype := .int) (ty := .int) S0 rfl ka_int (fun _ => rfl) (fun _ _ z => z) (fun cI ad h e => arr_i cI ad h 31 0 900 e) rfl (hN _ (by simp)) (by decide) (by decide) (Nat.le_of_ble_eq_true rfl) (Nat.le_of_ble_eq_true rfl) (Nat.le_of_ble_eq_true rfl) (dT d7_init 4 rfl).1 (dT d7_init 5 rfl).1 rfl (by decide) cf_7_7 rfl rfl rfl (fun x => ⟨rfl, rfl⟩) (Nat.le_of_ble_eq_true rfl) (fun w31 H31 l31 S31 => ?_)
  refine lv_aload_n O.1.1 O.1.2.1 (dT d7_init 6 rfl).1 rfl (lv_at hl 0 rfl) ?_
  refine lv_bipush O.1.1 O.1.2.1 (dT d7_init 7 rfl).1 rfl ?_
  refine c_arr O (n := 18) (r := 32) (i := 0) (k := 3) (kx := 1) (atype := .int) (ty := .int) S31 rfl ka_int (fun _ => rfl) (fun _ _ z => z) (fun cI ad h e => arr_i cI ad h 32 0 18 e) rfl (nin (hN _ (by simp)) (ne_r (by decide))) (by decide) (by decide) (Nat.le_of_ble_eq_true rfl) (Nat.le_of_ble_eq_true rfl) (Nat.le_of_ble_eq_true rfl) (dT d7_init 8 rfl).1 (dT d7_init 9 rfl).1 rfl (by decide) cf_7_13 rfl rfl rfl (fun x => ⟨rfl, rfl⟩) (Nat.le_of_ble_eq_true rfl) (fun w32 H32 l32 S32 => ?_)
  refine lv_aload_n O.1.1 O.1.2.1 (dT d7_init 10 rfl).1 rfl (lv_at hl 0 rfl) ?_
  refine lv_bipush O.1.1 O.1.2.1 (dT d7_init 11 rfl).1 rfl ?_
  refine c_arr O (n := 6) (r := 33) (i := 0) (k := 4) (kx := 3) (atype := .boolean) (ty := .boolean) S32 rfl ka_boolean (fun _ => rfl) (fun _ _ z => z) (fun cI ad h e => arr_z cI ad h 33 0 6 e) rfl (nin (nin (hN _ (by simp)) (ne_r (by decide))) (ne_r (by decide))) (by decide) (by decide) (Nat.le_of_ble_eq_true rfl) (Nat.le_of_ble_eq_true rfl) (Nat.le_of_ble_eq_true rfl) (dT d7_init 12 rfl).1 (dT d7_init 13 rfl).1 rfl (by decide) cf_7_16 rfl rfl rfl (fun x => ⟨rfl, rfl⟩) (Nat.le_of_ble_eq_true rfl) (fun w33 H33 l33 S33 => ?_)
  refine lv_aload_n O.1.1 O.1.2.1 (dT d7_init 14 rfl).1 rfl (lv_at hl 0 rfl) ?_
  refine lv_bipush O.1.1 O.1.2.1 (dT d7_init 15 rfl).1 rfl ?_
  refine c_arr O (n := 8) (r := 34) (i := 0) (k := 5) (kx := 1) (atype := .int) (ty := .int) S33 rfl ka_int (fun _ => rfl) (fun _ _ z => z) (fun cI ad h e => arr_i cI ad h 34 0 8 e) rfl (nin (nin (nin (hN _ (by simp)) (ne_r (by decide))) (ne_r (by decide))) (ne_r (by decide))) (by decide) (by decide) (Nat.le_of_ble_eq_true rfl) (Nat.le_of_ble_eq_true rfl) (Nat.le_of_ble_eq_true rfl) (dT d7_init 16 rfl).1 (dT d7_init 17 rfl).1 rfl (by decide) cf_7_20 rfl rfl rfl (fun x => ⟨rfl, rfl⟩) (Nat.le_of_ble_eq_true rfl) (fun w34 H34 l34 S34 => ?_)
  refine lv_aload_n O.1.1 O.1.2.1 (dT d7_init 18 rfl).1 rfl (lv_at hl 0 rfl) ?_
  refine lv_bipush O.1.1 O.1.2.1 (dT d7_init 19 rfl).1 rfl ?_
  refine c_arr O (n := 8) (r := 35) (i := 0) (k := 6) (kx := 1) (atype := .int) (ty := .int) S34 rfl ka_int (fun _ => rfl) (fun _ _ z => z) (fun cI ad h e => arr_i cI ad h 35 0 8 e) rfl (nin (nin (nin (nin (hN _ (by simp)) (ne_r (by decide))) (ne_r (by decide))) (ne_r (by decide))) (ne_r (by decide))) (by decide) (by decide) (Nat.le_of_ble_eq_true rfl) (Nat.le_of_ble_eq_true rfl) (Nat.le_of_ble_eq_true rfl) (dT d7_init 20 rfl).1 (dT d7_init 21 rfl).1 rfl (by decide) cf_7_23 rfl rfl rfl (fun x => ⟨rfl, rfl⟩) (Nat.le_of_ble_eq_true rfl) (fun w35 H35 l35 S35 => ?_)
  refine lv_aload_n O.1.1 O.1.2.1 (dT d7_init 22 rfl).1 rfl (lv_at hl 0 rfl) ?_
  refine lv_bipush O.1.1 O.1.2.1 (dT d7_init 23 rfl).1 rfl ?_
  refine c_arr O (n := 8) (r := 36) (i := 0) (k := 7) (kx := 1) (atype := .int) (ty := .int) S35 rfl ka_int (fun _ => rfl) (fun _ _ z => z) (fun cI ad h e => arr_i cI ad h 36 0 8 e) rfl (nin (nin (nin (nin (nin (hN _ (by simp)) (ne_r (by decide))) (ne_r (by decide))) (ne_r (by decide))) (ne_r (by decide))) (ne_r (by decide))) (by decide) (by decide) (Nat.le_of_ble_eq_true rfl) (Nat.le_of_ble_eq_true rfl) (Nat.le_of_ble_eq_true rfl) (dT d7_init 24 rfl).1 (dT d7_init 25 rfl).1 rfl (by decide) cf_7_26 rfl rfl rfl (fun x => ⟨rfl, rfl⟩) (Nat.le_of_ble_eq_true rfl) (fun w36 H36 l36 S36 => ?_)
  refine lv_aload_n O.1.1 O.1.2.1 (dT d7_init 26 rfl).1 rfl (lv_at hl 0 rfl) ?_
  refine lv_bipush O.1.1 O.1.2.1 (dT d7_init 27 rfl).1 rfl ?_
  refine c_arr O (n := 8) (r := 37) (i := 0) (k := 8) (kx := 1) (atype := .int) (ty := .int) S36 rfl ka_int (fun _ => rfl) (fun _ _ z => z) (fun cI ad h e => arr_i cI ad h 37 0 8 e) rfl (nin (nin (nin (nin (nin (nin (hN _ (by simp)) (ne_r (by decide))) (ne_r (by decide))) (ne_r (by decide))) (ne_r (by decide))) (ne_r (by decide))) (ne_r (by decide))) (by decide) (by decide) (Nat.le_of_ble_eq_true rfl) (Nat.le_of_ble_eq_true rfl) (Nat.le_of_ble_eq_true rfl) (dT d7_init 28 rfl).1 (dT d7_init 29 rfl).1 rfl (by decide) cf_7_29 rfl rfl rfl (fun x => ⟨rfl, rfl⟩) (Nat.le_of_ble_eq_true rfl) (fun w37 H37 l37 S37 => ?_)
  refine lv_aload_n O.1.1 O.1.2.1 (dT d7_init 30 rfl).1 rfl (lv_at hl 0 rfl) ?_
  refine lv_bipush O.1.1 O.1.2.1 (dT d7_init 31 rfl).1 rfl ?_
  refine c_arr O (n := 8) (r := 38) (i := 0) (k := 9) (kx := 3) (atype := .boolean) (ty := .boolean) S37 rfl ka_boolean (fun _ => rfl) (fun _ _ z => z) (fun cI ad h e => arr_z cI ad h 38 0 8 e) rfl (nin (nin (nin (nin (nin (nin (nin (hN _ (by simp)) (ne_r (by decide))) (ne_r (by decide))) (ne_r (by decide))) (ne_r (by decide))) (ne_r (by decide))) (ne_r (by decide))) (ne_r (by decide))) (by decide) (by decide) (Nat.le_of_ble_eq_true rfl) (Nat.le_of_ble_eq_true rfl) (Nat.le_of_ble_eq_true rfl) (dT d7_init 32 rfl).1 (dT d7_init 33 rfl).1 rfl (by decide) cf_7_32 rfl rfl rfl (fun x => ⟨rfl, rfl⟩) (Nat.le_of_ble_eq_true rfl) (fun w38 H38 l38 S38 => ?_)
  refine lv_aload_n O.1.1 O.1.2.1 (dT d7_init 34 rfl).1 rfl (lv_at hl 0 rfl) ?_
  refine lv_bipush O.1.1 O.1.2.1 (dT d7_init 35 rfl).1 rfl ?_
  refine c_arr O (n := 8) (r := 39) (i := 0) (k := 10) (kx := 1) (atype := .int) (ty := .int) S38 rfl ka_int (fun _ => rfl) (fun _ _ z => z) (fun cI ad h e => arr_i cI ad h 39 0 8 e) rfl (nin (nin (nin (nin (nin (nin (nin (nin (hN _ (by simp)) (ne_r (by decide))) (ne_r (by decide))) (ne_r (by decide))) (ne_r (by decide))) (ne_r (by decide))) (ne_r (by decide))) (ne_r (by decide))) (ne_r (by decide))) (by decide) (by decide) (Nat.le_of_ble_eq_true rfl) (Nat.le_of_ble_eq_true rfl) (Nat.le_of_ble_eq_true rfl) (dT d7_init 36 rfl).1 (dT d7_init 37 rfl).1 rfl (by decide) cf_7_35 rfl rfl rfl (fun x => ⟨rfl, rfl⟩) (Nat.le_of_ble_eq_true rfl) (fun w39 H39 l39 S39 => ?_)
  refine lv_aload_n O.1.1 O.1.2.1 (dT d7_init 38 rfl).1 rfl (lv_at hl 0 rfl) ?_
  refine lv_sipush O.1.1 O.1.2.1 (dT d7_init 39 rfl).1 rfl ?_
  refine c_arr O (n := 280) (r := 40) (i := 0) (k := 11) (kx := 1) (atype := .int) (ty := .int) S39 rfl ka_int (fun _ => rfl) (fun _ _ z => z) (fun cI ad h e => arr_i cI ad h 40 0 280 e) rfl (nin (nin (nin (nin (nin (nin (nin (nin (nin (hN _ (by simp)) (ne_r (by decide))) (ne_r (by decide))) (ne_r (by decide))) (ne_r (by decide))) (ne_r (by decide))) (ne_r (by decide))) (ne_r (by decide))) (ne_r (by decide))) (ne_r (by decide))) (by decide) (by decide) (Nat.le_of_ble_eq_true rfl) (Nat.le_of_ble_eq_true rfl) (Nat.le_of_ble_eq_true rfl) (dT d7_init 40 rfl).1 (dT d7_init 41 rfl).1 rfl (by decide) cf_7_38 rfl rfl rfl (fun x => ⟨rfl, rfl⟩) (Nat.le_of_ble_eq_true rfl) (fun w40 H40 l40 S40 => ?_)
  refine lv_aload_n O.1.1 O.1.2.1 (dT d7_init 42 rfl).1 rfl (lv_at hl 0 rfl) ?_
  refine lv_iconst O.1.1 O.1.2.1 (dT d7_init 43 rfl).1 rfl ?_
  refine c_put O (k := 21) S40 rfl (by decide) cf_7_41 rfl rfl ⟨rfl, rfl⟩ (Nat.le_of_ble_eq_true rfl) (dT d7_init 44 rfl).1 (fun Hp lp Sp => ?_)
  refine lv_aload_n O.1.1 O.1.2.1 (dT d7_init 45 rfl).1 rfl (lv_at hl 0 rfl) ?_
  refine lv_sipush O.1.1 O.1.2.1 (dT d7_init 46 rfl).1 rfl ?_
  refine c_arr O (n := 314) (r := 41) (i := 0) (k := 22) (kx := 1) (atype := .int) (ty := .int) Sp rfl ka_int (fun _ => rfl) (fun _ _ z => z) (fun cI ad h e => arr_i cI ad h 41 0 314 e) rfl (nin (nin (nin (nin (nin (nin (nin (nin (nin (nin (hN _ (by simp)) (ne_r (by decide))) (ne_r (by decide))) (ne_r (by decide))) (ne_r (by decide))) (ne_r (by decide))) (ne_r (by decide))) (ne_r (by decide))) (ne_r (by decide))) (ne_r (by decide))) (ne_r (by decide))) (by decide) (by decide) (Nat.le_of_ble_eq_true rfl) (Nat.le_of_ble_eq_true rfl) (Nat.le_of_ble_eq_true rfl) (dT d7_init 47 rfl).1 (dT d7_init 48 rfl).1 rfl (by decide) cf_7_45 rfl rfl rfl (fun x => ⟨rfl, rfl⟩) (Nat.le_of_ble_eq_true rfl) (fun w41 H41 l41 S41 => ?_)
  refine lv_aload_n O.1.1 O.1.2.1 (dT d7_init 49 rfl).1 rfl (lv_at hl 0 rfl) ?_
  refine lv_sipush O.1.1 O.1.2.1 (dT d7_init 50 rfl).1 rfl ?_
  refine c_arr O (n := 314) (r := 42) (i := 0) (k := 23) (kx := 1) (atype := .int) (ty := .int) S41 rfl ka_int (fun _ => rfl) (fun _ _ z => z) (fun cI ad h e => arr_i cI ad h 42 0 314 e) rfl (nin (nin (nin (nin (nin (nin (nin (nin (nin (nin (nin (hN _ (by simp)) (ne_r (by decide))) (ne_r (by decide))) (ne_r (by decide))) (ne_r (by decide))) (ne_r (by decide))) (ne_r (by decide))) (ne_r (by decide))) (ne_r (by decide))) (ne_r (by decide))) (ne_r (by decide))) (ne_r (by decide))) (by decide) (by decide) (Nat.le_of_ble_eq_true rfl) (Nat.le_of_ble_eq_true rfl) (Nat.le_of_ble_eq_true rfl) (dT d7_init 51 rfl).1 (dT d7_init 52 rfl).1 rfl (by decide) cf_7_48 rfl rfl rfl (fun x => ⟨rfl, rfl⟩) (Nat.le_of_ble_eq_true rfl) (fun w42 H42 l42 S42 => ?_)
  refine lv_aload_n O.1.1 O.1.2.1 (dT d7_init 53 rfl).1 rfl (lv_at hl 0 rfl) ?_
  refine lv_sipush O.1.1 O.1.2.1 (dT d7_init 54 rfl).1 rfl ?_
  refine c_arr O (n := 314) (r := 43) (i := 0) (k := 24) (kx := 1) (atype := .int) (ty := .int) S42 rfl ka_int (fun _ => rfl) (fun _ _ z => z) (fun cI ad h e => arr_i cI ad h 43 0 314 e) rfl (nin (nin (nin (nin (nin (nin (nin (nin (nin (nin (nin (nin (hN _ (by simp)) (ne_r (by decide))) (ne_r (by decide))) (ne_r (by decide))) (ne_r (by decide))) (ne_r (by decide))) (ne_r (by decide))) (ne_r (by decide))) (ne_r (by decide))) (ne_r (by decide))) (ne_r (by decide))) (ne_r (by decide))) (ne_r (by decide))) (by decide) (by decide) (Nat.le_of_ble_eq_true rfl) (Nat.le_of_ble_eq_true rfl) (Nat.le_of_ble_eq_true rfl) (dT d7_init 55 rfl).1 (dT d7_init 56 rfl).1 rfl (by decide) cf_7_51 rfl rfl rfl (fun x => ⟨rfl, rfl⟩) (Nat.le_of_ble_eq_true rfl) (fun w43 H43 l43 S43 => ?_)
  refine lv_aload_n O.1.1 O.1.2.1 (dT d7_init 57 rfl).1 rfl (lv_at hl 0 rfl) ?_
  refine lv_sipush O.1.1 O.1.2.1 (dT d7_init 58 rfl).1 rfl ?_
  refine c_arr O (n := 6280) (r := 44) (i := 0) (k := 25) (kx := 1) (atype := .int) (ty := .int) S43 rfl ka_int (fun _ => rfl) (fun _ _ z => z) (fun cI ad h e => arr_i cI ad h 44 0 6280 e) rfl (nin (nin (nin (nin (nin (nin (nin (nin (nin (nin (nin (nin (nin (hN _ (by simp)) (ne_r (by decide))) (ne_r (by decide))) (ne_r (by decide))) (ne_r (by decide))) (ne_r (by decide))) (ne_r (by decide))) (ne_r (by decide))) (ne_r (by decide))) (ne_r (by decide))) (ne_r (by decide))) (ne_r (by decide))) (ne_r (by decide))) (ne_r (by decide))) (by decide) (by decide) (Nat.le_of_ble_eq_true rfl) (Nat.le_of_ble_eq_true rfl) (Nat.le_of_ble_eq_true rfl) (dT d7_init 59 rfl).1 (dT d7_init 60 rfl).1 rfl (by decide) cf_7_54 rfl rfl rfl (fun x => ⟨rfl, rfl⟩) (Nat.le_of_ble_eq_true rfl) (fun w44 H44 l44 S44 => ?_)
  refine lv_aload_n O.1.1 O.1.2.1 (dT d7_init 61 rfl).1 rfl (lv_at hl 0 rfl) ?_
  refine lv_iconst O.1.1 O.1.2.1 (dT d7_init 62 rfl).1 rfl ?_
  refine c_arr O (n := 4) (r := 45) (i := 0) (k := 28) (kx := 1) (atype := .int) (ty := .int) S44 rfl ka_int (fun _ => rfl) (fun _ _ z => z) (fun cI ad h e => arr_i cI ad h 45 0 4 e) rfl (nin (nin (nin (nin (nin (nin (nin (nin (nin (nin (nin (nin (nin (nin (hN _ (by simp)) (ne_r (by decide))) (ne_r (by decide))) (ne_r (by decide))) (ne_r (by decide))) (ne_r (by decide))) (ne_r (by decide))) (ne_r (by decide))) (ne_r (by decide))) (ne_r (by decide))) (ne_r (by decide))) (ne_r (by decide))) (ne_r (by decide))) (ne_r (by decide))) (ne_r (by decide))) (by decide) (by decide) (Nat.le_of_ble_eq_true rfl) (Nat.le_of_ble_eq_true rfl) (Nat.le_of_ble_eq_true rfl) (dT d7_init 63 rfl).1 (dT d7_init 64 rfl).1 rfl (by decide) cf_7_57 rfl rfl rfl (fun x => ⟨rfl, rfl⟩) (Nat.le_of_ble_eq_true rfl) (fun w45 H45 l45 S45 => ?_)
  have SC := c_close S45 (r0 := 30) (i0 := 0) (g := fun k => if k = 21 then -1 else 0) rfl (nin (nin (nin (nin (nin (nin (nin (nin (nin (nin (nin (nin (nin (nin (nin (hN _ (by simp)) (ne_r (by decide))) (ne_r (by decide))) (ne_r (by decide))) (ne_r (by decide))) (ne_r (by decide))) (ne_r (by decide))) (ne_r (by decide))) (ne_r (by decide))) (ne_r (by decide))) (ne_r (by decide))) (ne_r (by decide))) (ne_r (by decide))) (ne_r (by decide))) (ne_r (by decide))) (ne_r (by decide))) (Or.inr (by decide)) (by simp [mFs, rs, adU]) (by intro t ht; simp [tgs, mT] at ht; rcases ht with rfl | rfl | rfl | rfl | rfl | rfl | rfl | rfl | rfl | rfl | rfl | rfl | rfl | rfl | rfl <;> simp)
  have fx : mFx D cA (adU (adU (adU (adU (adU (adU (adU (adU (adU (adU (adU (adU (adU (adU (adU (adU ad 31 0 w31) 32 0 w32) 33 0 w33) 34 0 w34) 35 0 w35) 36 0 w36) 37 0 w37) 38 0 w38) 39 0 w39) 40 0 w40) 41 0 w41) 42 0 w42) 43 0 w43) 44 0 w44) 45 0 w45) 30 0 a) _ s s.heap := mFx_ad (fun r i hr => by rw [adU_o (ne_r (by omega)), adU_o (ne_r (by omega)), adU_o (ne_r (by omega)), adU_o (ne_r (by omega)), adU_o (ne_r (by omega)), adU_o (ne_r (by omega)), adU_o (ne_r (by omega)), adU_o (ne_r (by omega)), adU_o (ne_r (by omega)), adU_o (ne_r (by omega)), adU_o (ne_r (by omega)), adU_o (ne_r (by omega)), adU_o (ne_r (by omega)), adU_o (ne_r (by omega)), adU_o (ne_r (by omega)), adU_o (ne_r (by omega))]) hFx
  refine c_at O SC fx rfl ⟨by decide, by decide, Nat.le_refl _, Nat.le_refl _⟩ (lsU hl (by simp) adU_e) (vs1 (by simp)) ?_
  have e30 : (rs (rs (rs (rs (rs (rs (rs (rs (rs (rs (rs (rs (rs (rs (rs (rs h 31 0 (fun _ => 0)) 32 0 (fun _ => 0)) 33 0 (fun _ => 0)) 34 0 (fun _ => 0)) 35 0 (fun _ => 0)) 36 0 (fun _ => 0)) 37 0 (fun _ => 0)) 38 0 (fun _ => 0)) 39 0 (fun _ => 0)) 40 0 (fun _ => 0)) 41 0 (fun _ => 0)) 42 0 (fun _ => 0)) 43 0 (fun _ => 0)) 44 0 (fun _ => 0)) 45 0 (fun _ => 0)) 30 0 (fun k => if k = 21 then -1 else 0)) 30 0 = (fun k => if k = 21 then -1 else 0) := rs_same _ _ _ _
  have eo : ∀ r i, (r, i) ∉ nM → (rs (rs (rs (rs (rs (rs (rs (rs (rs (rs (rs (rs (rs (rs (rs (rs h 31 0 (fun _ => 0)) 32 0 (fun _ => 0)) 33 0 (fun _ => 0)) 34 0 (fun _ => 0)) 35 0 (fun _ => 0)) 36 0 (fun _ => 0)) 37 0 (fun _ => 0)) 38 0 (fun _ => 0)) 39 0 (fun _ => 0)) 40 0 (fun _ => 0)) 41 0 (fun _ => 0)) 42 0 (fun _ => 0)) 43 0 (fun _ => 0)) 44 0 (fun _ => 0)) 45 0 (fun _ => 0)) 30 0 (fun k => if k = 21 then -1 else 0)) r i = h r i := by
    intro r i hz
    have z : ∀ k : Nat, (k, 0) ∈ nM → (r, i) ≠ (k, 0) := fun k hk e => hz (by rw [e]; exact hk)
    rw [rs_o (z 30 (by simp)), rs_o (z 45 (by simp)), rs_o (z 44 (by simp)), rs_o (z 43 (by simp)), rs_o (z 42 (by simp)), rs_o (z 41 (by simp)), rs_o (z 40 (by simp)), rs_o (z 39 (by simp)), rs_o (z 38 (by simp)), rs_o (z 37 (by simp)), rs_o (z 36 (by simp)), rs_o (z 35 (by simp)), rs_o (z 34 (by simp)), rs_o (z 33 (by simp)), rs_o (z 32 (by simp)), rs_o (z 31 (by simp))]
  revert e30 eo
  generalize (rs (rs (rs (rs (rs (rs (rs (rs (rs (rs (rs (rs (rs (rs (rs (rs h 31 0 (fun _ => 0)) 32 0 (fun _ => 0)) 33 0 (fun _ => 0)) 34 0 (fun _ => 0)) 35 0 (fun _ => 0)) 36 0 (fun _ => 0)) 37 0 (fun _ => 0)) 38 0 (fun _ => 0)) 39 0 (fun _ => 0)) 40 0 (fun _ => 0)) 41 0 (fun _ => 0)) 42 0 (fun _ => 0)) 43 0 (fun _ => 0)) 44 0 (fun _ => 0)) 45 0 (fun _ => 0)) 30 0 (fun k => if k = 21 then -1 else 0)) = h6
  intro e30 eo
  refine mw_aload_n (dT d7_init 65 rfl) rfl (by decide) ?_
  refine mw_callVV mv_7_freshText ml_X7_60 (by decide) (dT d7_init 66 rfl) (as := []) rfl rfl (c7_freshText (K := fun h7 => _ ∧ RDn h7 p00 s00) (fun h7 f a b c => ⟨f, b⟩)) (fun h7 f7 => ?_)
  refine mw_aload_n (dT d7_init 67 rfl) rfl (by decide) ?_
  refine mw_callVV mv_7_takeText ml_X7_63 (by decide) (dT d7_init 68 rfl) (as := []) rfl rfl (c7_takeText (K := fun h8 => _ ∧ ∀ j, 0 ≤ j → j < 9 → h8 32 0 j = h7 32 0 (9 + j)) (fun h8 f a b => ⟨f, a⟩)) (fun h8 f8 => ?_)
  refine mw_aload_n (dT d7_init 69 rfl) rfl (by decide) ?_
  have nn := f7.2
  obtain ⟨n0, n1, n2, n3, n4, n5, n6, n7, n8⟩ := nn
  have W0 := wf00 (n := 0) (Int.le_refl _)
  refine mw_callVV mv_7_begins ml_X7_66 (by decide) (dT d7_init 70 rfl) (as := []) rfl rfl (c7_begins (K := fun h9 => h9 = rs h8 41 0 (bgS p00 s00)) (p := p00) (s := s00) W0.2.1 W0.2.2.1 ((f8.2 0 (by decide) (by decide)).trans n0) ((f8.2 2 (by decide) (by decide)).trans n2) ((f8.2 4 (by decide) (by decide)).trans n4) ((f8.2 5 (by decide) (by decide)).trans n5) ((f8.2 6 (by decide) (by decide)).trans n6) ((f8.2 7 (by decide) (by decide)).trans n7) ((f8.2 8 (by decide) (by decide)).trans n8) (fun f a b => by have : f < 0 := b; omega) (fun k a b => by have : k < 7 * 0 := b; omega) rfl) (fun h9 e9 => ?_)
  subst e9
  have x30 : rs h8 41 0 (bgS p00 s00) 30 0 = (fun k => if k = 21 then -1 else 0) := by rw [rs_r (by decide), f8.1 30 0 (by decide), f7.1 30 0 (by decide) (by decide), e30]
  have xr : RG (rs h8 41 0 (bgS p00 s00)) sg0 := by
    refine ⟨⟨⟨?_, ?_, ?_, fun f a b => ?_⟩, ?_, W0.2.1, bgS_wf W0.2.1 W0.2.2.1 W0.2.2.2.2.1⟩, fun f a b => ?_, ⟨?_, Or.inl rfl, fun z => by cases z⟩, ⟨?_, show (0 : Int) ≤ 0 ∧ (0 : Int) ≤ 20 by decide, fun k a b => ?_⟩, ⟨?_, show (0 : Int) ≤ 0 ∧ (0 : Int) ≤ 900 by decide, fun k a b => ?_⟩, ⟨?_, ?_, show mInR 0 by decide, show mInR (-1) by decide⟩⟩
    · rw [rs_r (by decide)]; exact (f8.2 7 (by decide) (by decide)).trans n7
    · rw [rs_r (by decide)]; exact (f8.2 1 (by decide) (by decide)).trans n1
    · rw [rs_r (by decide)]; exact (f8.2 3 (by decide) (by decide)).trans n3
    · have : f < 0 := b
      omega
    · rw [rs_same]; rfl
    · have : f < 0 := b
      omega
    · rw [x30]; rfl
    · rw [x30]; rfl
    · have : k < 0 := b
      omega
    · rw [x30]; rfl
    · have : k < 0 := b
      omega
    · rw [x30]; rfl
    · rw [x30]; rfl
  have xo : ∀ r i, (r, i) ∉ nM → rs h8 41 0 (bgS p00 s00) r i = h r i := by
    intro r i hz
    have z : ∀ k : Nat, (k, 0) ∈ nM → (r, i) ≠ (k, 0) := fun k hk e => hz (by rw [e]; exact hk)
    have y : ∀ k : Nat, (k, 0) ∈ nM → ¬ (r = k ∧ i = 0) := fun k hk e => z k hk (by rw [e.1, e.2])
    rw [rs_o (z 41 (by simp)), f8.1 r i (fun w => by
      obtain ⟨w1, rfl⟩ := w
      rcases w1 with rfl | rfl | rfl | rfl | rfl | rfl <;> exact hz (by simp)), f7.1 r i (y 32 (by simp)) (y 33 (by simp))]
    exact eo r i hz
  revert xr xo
  generalize rs h8 41 0 (bgS p00 s00) = h9
  intro xr xo
  rintro G rfl V H locs ls2 hP hS hL v1 v2
  have ee : ((((((((((((((((ids ++ [(31, 0)]) ++ [(32, 0)]) ++ [(33, 0)]) ++ [(34, 0)]) ++ [(35, 0)]) ++ [(36, 0)]) ++ [(37, 0)]) ++ [(38, 0)]) ++ [(39, 0)]) ++ [(40, 0)]) ++ [(41, 0)]) ++ [(42, 0)]) ++ [(43, 0)]) ++ [(44, 0)]) ++ [(45, 0)]) ++ [(30, 0)]) = ids ++ nM := by simp
  have hP9 : va_P D vwCl (mW cA (adU (adU (adU (adU (adU (adU (adU (adU (adU (adU (adU (adU (adU (adU (adU (adU ad 31 0 w31) 32 0 w32) 33 0 w33) 34 0 w34) 35 0 w35) 36 0 w36) 37 0 w37) 38 0 w38) 39 0 w39) 40 0 w40) 41 0 w41) 42 0 w42) 43 0 w43) 44 0 w44) 45 0 w45) 30 0 a) ((((((((((((((((ids ++ [(31, 0)]) ++ [(32, 0)]) ++ [(33, 0)]) ++ [(34, 0)]) ++ [(35, 0)]) ++ [(36, 0)]) ++ [(37, 0)]) ++ [(38, 0)]) ++ [(39, 0)]) ++ [(40, 0)]) ++ [(41, 0)]) ++ [(42, 0)]) ++ [(43, 0)]) ++ [(44, 0)]) ++ [(45, 0)]) ++ [(30, 0)]) h9) H := hP
  have hD9 : va_D _ (mW cA (adU (adU (adU (adU (adU (adU (adU (adU (adU (adU (adU (adU (adU (adU (adU (adU ad 31 0 w31) 32 0 w32) 33 0 w33) 34 0 w34) 35 0 w35) 36 0 w36) 37 0 w37) 38 0 w38) 39 0 w39) 40 0 w40) 41 0 w41) 42 0 w42) 43 0 w43) 44 0 w44) 45 0 w45) 30 0 a) ((((((((((((((((ids ++ [(31, 0)]) ++ [(32, 0)]) ++ [(33, 0)]) ++ [(34, 0)]) ++ [(35, 0)]) ++ [(36, 0)]) ++ [(37, 0)]) ++ [(38, 0)]) ++ [(39, 0)]) ++ [(40, 0)]) ++ [(41, 0)]) ++ [(42, 0)]) ++ [(43, 0)]) ++ [(44, 0)]) ++ [(45, 0)]) ++ [(30, 0)]) h9) := V.2.2.2.2.1 h9
  rw [ee] at hP9 hD9
  refine c_fin O hP9 hD9 hS (fun r i hz => ?_) adU_e xr (dT d7_init 71 rfl).1
  have z : ∀ k : Nat, (k, 0) ∈ nM → (r, i) ≠ (k, 0) := fun k hk e => hz (by rw [e]; exact hk)
  refine ⟨?_, xo r i hz⟩
  rw [adU_o (z 30 (by simp)), adU_o (z 45 (by simp)), adU_o (z 44 (by simp)), adU_o (z 43 (by simp)), adU_o (z 42 (by simp)), adU_o (z 41 (by simp)), adU_o (z 40 (by simp)), adU_o (z 39 (by simp)), adU_o (z 38 (by simp)), adU_o (z 37 (by simp)), adU_o (z 36 (by simp)), adU_o (z 35 (by simp)), adU_o (z 34 (by simp)), adU_o (z 33 (by simp)), adU_o (z 32 (by simp)), adU_o (z 31 (by simp))]
end CTOR4
