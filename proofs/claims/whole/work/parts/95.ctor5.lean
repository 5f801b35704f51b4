/-! constructors: the reader -/
section CTOR5
abbrev nR : List (Nat × Int) := [(21, 0), (22, 0), (23, 0), (20, 0), (8, 1), (9, 1), (10, 1), (11, 1), (7, 1), (2, 2), (3, 2), (4, 2), (5, 2), (6, 2), (1, 2), (24, 0)]
theorem ct_reader : CtOk M4_init 24 0 4 [.null, .null, .null, .int 0, .int 0, .int 0, .int 0, .int 0, .int 0, .int 0, .int 0] [] nR [] (fun _ => True) 15 2935 := by
  intro l D cA ad ids sz a h hC hN hne h27
  have h27 : ∀ j, (27, j) ∉ ids := h27.resolve_right (by decide)
  refine va_MetF (cc := cX4_init) (maxL := 1) (ret := none) (ws' := mTbl) rfl rfl ?_
  intro p e s m args below meth c s₁ B hml hv
  obtain ⟨rfl, hsz, hP, hD0, hFx, hAO⟩ := hv
  subst hsz
  have hts := atoms_spec (ws := mWs M4_init) B.pre
  have hD := hD0.self (sz := s.heap.size)
  have O : cOk M4_init p (cRoom 2 15 2935) s m _ meth c D cA (va_A ([(a, Sum.inr (4, [.null, .null, .null, .int 0, .int 0, .int 0, .int 0, .int 0, .int 0, .int 0, .int 0]))] ++ mW cA ad ids h) s.heap.size) := ⟨⟨B.exec, B.bytes, hml, findClass_of_methodNamed B.named, fun w hw => hts w (List.mem_cons_of_mem _ hw)⟩, ⟨B.returns, B.notSynchronized, (name_of_methodNamed B.named B.method).1⟩, hFx.1, fun q hq => Or.inr hq⟩
  have S0 : cSt D cA _ s.heap [(a, Sum.inr (4, [.null, .null, .null, .int 0, .int 0, .int 0, .int 0, .int 0, .int 0, .int 0, .int 0]))] ad ids h s.heap [] := ⟨hP, hD, va_S.rf, hC⟩
  have hl := lv_entry ([.ref a]) (n := 1) (Nat.le_of_ble_eq_true rfl)
  show W _ _ _ _ _ _ _ _ _ _ _ _ _ _ _ (entryFrame m ([.ref a] : List Value).toArray 1)
  rw [lg_entry_eq]
  generalize (lg_sl ([.ref a]) ++ List.replicate (1 - (lg_sl ([.ref a])).length) Slot.unset).toArray = ls at hl ⊢
  have hl : lv_has ls 1 [(0, .ref a)] := hl
  refine lv_aload_n O.1.1 O.1.2.1 (dT d4_init 0 rfl).1 rfl (lv_at hl 0 rfl) ?_
  refine c_objI O hl.1 ol_4 oi_1 oi_2 ⟨by decide, by decide⟩ (dT d4_init 1 rfl).1 ?_
  refine lv_aload_n O.1.1 O.1.2.1 (dT d4_init 2 rfl).1 rfl (lv_at hl 0 rfl) ?_
  refine c_new O (ci := 5) (ty := tyX5) (dv := [.null, .null, .null, .int 0, .int 0]) S0 rfl tyX5_ok klRX4_9 ki2_X5 ki_X5 (fun j hj => by have hj : j < 5 := hj; rcases (show j = 0 ∨ j = 1 ∨ j = 2 ∨ j = 3 ∨ j = 4 by omega) with rfl | rfl | rfl | rfl | rfl <;> rfl) (Nat.le_of_ble_eq_true rfl) (Nat.le_of_ble_eq_true rfl) (dT d4_init 3 rfl).1 (dT d4_init 4 rfl).1 (fun wA HnA SnA => ?_)
  refine c_initN O (host := "RateOffice") (idx := 11) (as := []) SnA hFx hAO hl.1 ct_tokens mc_5 (by decide) rfl (fun q hq => (hN q ((by decide : ∀ q ∈ (nT : List (Nat × Int)), q ∈ (nR : List (Nat × Int))) q hq))) (fun q hq => by cases hq) (Or.inl (fun j => (h27 j))) (fun q hq t ht => List.mem_append_right _ ((by decide : ∀ q ∈ (nT : List (Nat × Int)), ∀ t ∈ tgs q.1 q.2, t ∈ (nT : List (Nat × Int))) q hq t ht)) ⟨by decide, by decide⟩ ⟨Nat.le_of_ble_eq_true rfl, Nat.le_of_ble_eq_true rfl⟩ (Nat.le_of_ble_eq_true rfl) (dT d4_init 5 rfl).1 (fun adA hA HA lA hoA haA hiA SiA => ?_)
  refine c_put O (k := 0) SiA rfl (by decide) cf_4_12 rfl rfl ⟨rfl, rfl⟩ (Nat.le_of_ble_eq_true rfl) (dT d4_init 6 rfl).1 (fun HqA lqA SA => ?_)
  have fxA : mFx D cA adA _ s s.heap := mFx_ad (fun r i hr => (hoA r i (fun y => by simp at y; omega)).1) hFx
  refine lv_aload_n O.1.1 O.1.2.1 (dT d4_init 7 rfl).1 rfl (lv_at hl 0 rfl) ?_
  refine c_new O (ci := 3) (ty := tyX3) (dv := [.int 0, .int 0, .int 0, .null, .null, .null, .null]) SA rfl tyX3_ok klRX4_18 ki2_X3 ki_X3 (fun j hj => by have hj : j < 7 := hj; rcases (show j = 0 ∨ j = 1 ∨ j = 2 ∨ j = 3 ∨ j = 4 ∨ j = 5 ∨ j = 6 by omega) with rfl | rfl | rfl | rfl | rfl | rfl | rfl <;> rfl) (Nat.le_of_ble_eq_true rfl) (Nat.le_of_ble_eq_true rfl) (dT d4_init 8 rfl).1 (dT d4_init 9 rfl).1 (fun wB HnB SnB => ?_)
  refine c_init O (as := []) SnB fxA hAO hl.1 (ct_plan 1) mc_3 cl_4_20 rfl (fun q hq => (fun z => (List.mem_append.mp z).elim (hN q ((by decide : ∀ q ∈ (nP 1 : List (Nat × Int)), q ∈ (nR : List (Nat × Int))) q hq)) ((by decide : ∀ q ∈ (nP 1 : List (Nat × Int)), q ∉ (nT : List (Nat × Int))) q hq))) (fun q hq => by cases hq) (Or.inl (fun j => (fun z => (List.mem_append.mp z).elim (h27 j) (fun y => by simp at y)))) (fun q hq t ht => List.mem_append_right _ ((by decide : ∀ q ∈ (nP 1 : List (Nat × Int)), ∀ t ∈ tgs q.1 q.2, t ∈ (nP 1 : List (Nat × Int))) q hq t ht)) ⟨by decide, by decide⟩ ⟨Nat.le_of_ble_eq_true rfl, Nat.le_of_ble_eq_true rfl⟩ (Nat.le_of_ble_eq_true rfl) (dT d4_init 10 rfl).1 (fun adB hB HB lB hoB haB hiB SiB => ?_)
  refine c_put O (k := 1) SiB rfl (by decide) cf_4_21 rfl rfl ⟨rfl, rfl⟩ (Nat.le_of_ble_eq_true rfl) (dT d4_init 11 rfl).1 (fun HqB lqB SB => ?_)
  have fxB : mFx D cA adB _ s s.heap := mFx_ad (fun r i hr => (hoB r i (fun y => by simp at y; omega)).1) fxA
  refine lv_aload_n O.1.1 O.1.2.1 (dT d4_init 12 rfl).1 rfl (lv_at hl 0 rfl) ?_
  refine c_new O (ci := 0) (ty := tyX0) (dv := [.int 0, .int 0, .int 0, .int 0, .int 0, .int 0, .int 0, .null, .null, .null, .null, .null]) SB rfl tyX0_ok klRX4_25 ki2_X0 ki_X0 (fun j hj => by have hj : j < 12 := hj; rcases (show j = 0 ∨ j = 1 ∨ j = 2 ∨ j = 3 ∨ j = 4 ∨ j = 5 ∨ j = 6 ∨ j = 7 ∨ j = 8 ∨ j = 9 ∨ j = 10 ∨ j = 11 by omega) with rfl | rfl | rfl | rfl | rfl | rfl | rfl | rfl | rfl | rfl | rfl | rfl <;> rfl) (Nat.le_of_ble_eq_true rfl) (Nat.le_of_ble_eq_true rfl) (dT d4_init 13 rfl).1 (dT d4_init 14 rfl).1 (fun wC HnC SnC => ?_)
  refine c_init O (as := []) SnC fxB hAO hl.1 (ct_book 2) mc_0 cl_4_27 rfl (fun q hq => (fun z => (List.mem_append.mp z).elim (fun z => (List.mem_append.mp z).elim (hN q ((by decide : ∀ q ∈ (nB 2 : List (Nat × Int)), q ∈ (nR : List (Nat × Int))) q hq)) ((by decide : ∀ q ∈ (nB 2 : List (Nat × Int)), q ∉ (nT : List (Nat × Int))) q hq)) ((by decide : ∀ q ∈ (nB 2 : List (Nat × Int)), q ∉ (nP 1 : List (Nat × Int))) q hq))) (fun q hq => by cases hq) (Or.inl (fun j => (fun z => (List.mem_append.mp z).elim (fun z => (List.mem_append.mp z).elim (h27 j) (fun y => by simp at y)) (fun y => by simp at y)))) (fun q hq t ht => List.mem_append_right _ ((by decide : ∀ q ∈ (nB 2 : List (Nat × Int)), ∀ t ∈ tgs q.1 q.2, t ∈ (nB 2 : List (Nat × Int))) q hq t ht)) ⟨by decide, by decide⟩ ⟨Nat.le_of_ble_eq_true rfl, Nat.le_of_ble_eq_true rfl⟩ (Nat.le_of_ble_eq_true rfl) (dT d4_init 15 rfl).1 (fun adC hC HC lC hoC haC hiC SiC => ?_)
  refine c_put O (k := 2) SiC rfl (by decide) cf_4_28 rfl rfl ⟨rfl, rfl⟩ (Nat.le_of_ble_eq_true rfl) (dT d4_init 16 rfl).1 (fun HqC lqC SC => ?_)
  have e20 : adC 20 0 = wA := by rw [(hoC 20 0 (by decide)).1, (hoB 20 0 (by decide)).1, haA]
  have e7 : adC 7 1 = wB := by rw [(hoC 7 1 (by decide)).1, haB]
  have n24 : (24, 0) ∉ ids := hN _ (by simp)
  have SC := c_close SC (r0 := 24) (i0 := 0) (g := fun _ => 0) rfl (by simp [n24]) (Or.inr (by decide)) (by simp [mFs, rs, adU, e20, e7, haC]) (by intro t ht; simp [tgs, mT] at ht; rcases ht with rfl | rfl | rfl <;> simp)
  have ee : (((ids ++ nT) ++ nP 1) ++ nB 2) ++ [(24, 0)] = ids ++ nR := by simp
  obtain ⟨hP9, hD9, hS9, hC9⟩ := SC
  rw [List.nil_append, ee] at hP9 hD9
  refine c_fin O hP9 hD9 hS9 (fun r i hz => ?_) adU_e trivial (dT d4_init 17 rfl).1
  have z1 : (r, i) ∉ nT := fun y => hz ((by decide : ∀ q ∈ nT, q ∈ nR) _ y)
  have z2 : (r, i) ∉ nP 1 := fun y => hz ((by decide : ∀ q ∈ nP 1, q ∈ nR) _ y)
  have z3 : (r, i) ∉ nB 2 := fun y => hz ((by decide : ∀ q ∈ nB 2, q ∈ nR) _ y)
  have z4 : (r, i) ≠ (24, 0) := fun y => hz (by rw [y]; simp)
  refine ⟨?_, ?_⟩
  · rw [adU_o z4, (hoC r i z3).1, (hoB r i z2).1, (hoA r i z1).1]
  · rw [rs_o z4, (hoC r i z3).2, (hoB r i z2).2, (hoA r i z1).2]
end CTOR5
