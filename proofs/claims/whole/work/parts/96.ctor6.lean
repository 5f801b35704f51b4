/-! constructors: the office -/
section CTOR6
variable {p : Program} {l : Launch} {e : Env} {R : Room} {s : State} {m : MethodId} {args : Array Value} {below : List Frame} {meth : Method} {c : Code} {Q : State → Prop}
variable {M : mMs} {D : va_G} {cA : Nat → ClassId} {A : Nat → Prop} {ls : Array Slot}
theorem c_getO (O : cOk M p R s m args meth c D cA A) {pc idx ci k a cells slots z : Nat} {q : vw_C} {fs rest : List Value} {v : Value} {op : va_W} {ad : Nat → Int → Nat} {ids : List (Nat × Int)} {h : mH} {H : Heap} {locs : List Loc} (S : cSt D cA A s.heap op ad ids h H locs) (hz : op[z]? = some (a, .inr (ci, fs))) (hq : vwCl[ci]? = some q) (hk : k < q.2.2) (hfl : Cond.fieldLink M.1.cls idx (q.2.1 k).1 (q.2.1 k).2.1 (q.2.1 k).2.2.1 ∈ mTbl) (hv : fs[k]? = some v) (hd : decode M.2.1 pc = .ok (.getfield idx, 3)) (kk : W p l e R s m args below meth c H locs cells slots Q (F0 m (pc + 3) ls (v :: rest))) : W p l e R s m args below meth c H locs cells slots Q (F0 m pc ls (.ref a :: rest)) := by
  obtain ⟨hP, hD, hS, hC⟩ := S
  have hw : (op ++ mW cA ad ids h)[z]? = some (a, .inr (ci, fs)) := by
    rw [List.getElem?_append_left (List.getElem?_eq_some_iff.mp hz).1]
    exact hz
  exact va_get O.1.1 O.1.2.1 O.1.2.2.2.2 (mLay ci q hq) O.1.2.2.2.1 O.2.2.1 hP z hw hq k hk (O.1.2.2.2.2 _ hfl) (fun _ z => z) hv hd kk
theorem c_anew (O : cOk M p R s m args meth c D cA A) {pc idx cells slots a : Nat} {X : Nat × va_E} {op : va_W} {ad : Nat → Int → Nat} {ids : List (Nat × Int)} {h : mH} {H : Heap} {locs : List Loc} {rest : List Value} (S : cSt D cA A s.heap (X :: op) ad ids h H locs) (AO : va_AO "RateOffice$Book" s) (hcl : Cond.classLink M.1.cls idx "RateOffice$Book" ∈ mTbl) (hc : cells + 1 ≤ R.cells) (hs : slots + 20 ≤ R.slots) (hd : decode M.2.1 pc = .ok (.anewarray idx, 3))
    (kk : ∀ (w : Nat) (H1 : Heap), cSt D cA A s.heap (X :: (w, .inl (cA 4, 20, .inr (.inr (.inr (.inr (fun _ => none)))))) :: op) ad ids h H1 locs → W p l e R s m args below meth c H1 locs (cells + 1) (slots + 20) Q (F0 m (pc + 3) ls (.ref w :: rest))) : W p l e R s m args below meth c H locs cells slots Q (F0 m pc ls (.int (Int32.ofInt 20) :: rest)) := by
  obtain ⟨hP, hD, hS, hC⟩ := S
  refine va_newq O.1.1 O.1.2.1 O.1.2.2.2.1 (O.1.2.2.2.2 _ hcl) AO O.2.2.1 hP hD hS O.2.2.2 (N' := 20) (by decide) (by decide) (by decide) hc hs hd (fun w c1 H1 hK1 hP1 hD1 hS1 => ?_)
  have ec : c1 = cA 4 := by
    obtain ⟨kA, comp, -, -, -, k1⟩ := (O.2.2.1.2 4 _ rfl).2
    obtain ⟨kB, comp2, -, -, -, k2⟩ := (hK1.2 5 _ rfl).2
    rw [k1] at k2
    exact (Option.some.inj k2).symm
  subst ec
  have hp : (((X :: op) ++ mW cA ad ids h) ++ [(w, Sum.inl (cA 4, 20, Sum.inr (Sum.inr (Sum.inr (Sum.inr (fun _ => none))))))]).Perm ((X :: (w, Sum.inl (cA 4, 20, Sum.inr (Sum.inr (Sum.inr (Sum.inr (fun _ => none)))))) :: op) ++ mW cA ad ids h) := by
    refine (List.perm_append_singleton _ _).trans ?_
    exact List.Perm.swap _ _ _
  exact kk w H1 ⟨wP_perm hp hP1, wD_perm hp hD1, hS1, hC⟩
def hB : Nat → List (Nat × Int)
  | 0 => []
  | k + 1 => hB k ++ nB (4 + (k : Int))
theorem mem_hB : ∀ (k : Nat) (r : Nat) (i : Int), (r, i) ∈ hB k ↔ (1 ≤ r ∧ r ≤ 6) ∧ 4 ≤ i ∧ i < 4 + (k : Int)
  | 0, r, i => by
    constructor
    · intro h; cases h
    · intro h; omega
  | k + 1, r, i => by
    show (r, i) ∈ hB k ++ nB (4 + (k : Int)) ↔ _
    rw [List.mem_append, mem_hB k r i]
    simp
    omega
theorem clB (b : Int) : ∀ q ∈ nB b, ∀ t ∈ tgs q.1 q.2, t ∈ nB b := by
  intro q hq t ht
  simp at hq
  rcases hq with rfl | rfl | rfl | rfl | rfl | rfl
  · simp [tgs, mT] at ht
  · simp [tgs, mT] at ht
  · simp [tgs, mT] at ht
  · simp [tgs, mT] at ht
  · simp [tgs, mT] at ht
  · simp [tgs, mT] at ht
    rcases ht with rfl | rfl | rfl | rfl | rfl <;> simp
/-- twenty books for what can be undone -/
theorem c_hist (O : cOk M6_init p R s m args meth c D cA A) {a wh cells slots : Nat} {fs : List Value} {ids : List (Nat × Int)} {ad0 : Nat → Int → Nat} {h0 : mH} (hfs : fs[13]? = some (.ref wh)) (hids : ∀ (r : Nat) (i : Int), 1 ≤ r ∧ r ≤ 6 → 4 ≤ i → i < 24 → (r, i) ∉ ids) (h27 : ∀ j, (27, j) ∉ ids) (FX : mFx D cA ad0 A s s.heap) (AO : va_AO "RateOffice$Book" s) (hR : 2 ≤ R.frames ∧ 80 ≤ R.locals) (hc : cells + 120 ≤ R.cells ∧ slots + 4080 ≤ R.slots)
    (fin : ∀ (ad : Nat → Int → Nat) (h : mH) (H : Heap) (locs : List Loc) (f : Nat → Option Nat) (ls : Array Slot), lv_has ls 2 [(1, .int (Int32.ofInt 20)), (0, .ref a)] → cSt D cA A s.heap [(a, .inr (6, fs)), (wh, .inl (cA 4, 20, .inr (.inr (.inr (.inr f)))))] ad (ids ++ hB 20) h H locs → (∀ j : Nat, j < 20 → f j = some (ad 1 (4 + (j : Int)))) → (∀ r i, (r, i) ∉ hB 20 → ad r i = ad0 r i ∧ h r i = h0 r i) → W p l e R s m args below meth c H locs (cells + 120) (slots + 4080) Q (F0 m 162 ls [])) :
    ∀ (k i : Nat), i + k = 20 → ∀ (ad : Nat → Int → Nat) (h : mH) (H : Heap) (locs : List Loc) (f : Nat → Option Nat) (ls : Array Slot), lv_has ls 2 [(1, .int (Int32.ofInt (i : Int))), (0, .ref a)] → cSt D cA A s.heap [(a, .inr (6, fs)), (wh, .inl (cA 4, 20, .inr (.inr (.inr (.inr f)))))] ad (ids ++ hB i) h H locs → (∀ j : Nat, j < i → f j = some (ad 1 (4 + (j : Int)))) → (∀ r j, (r, j) ∉ hB i → ad r j = ad0 r j ∧ h r j = h0 r j) → W p l e R s m args below meth c H locs (cells + 6 * i) (slots + 204 * i) Q (F0 m 137 ls []) := by
  intro k
  induction k with
  | zero =>
    intro i hi ad h H locs f ls hl S hf ho
    have e20 : i = 20 := by omega
    subst e20
    refine lv_iload_n O.1.1 O.1.2.1 (dT d6_init 65 rfl).1 rfl (lv_at hl 0 rfl) ?_
    refine lv_bipush (v := Int32.ofInt 20) O.1.1 O.1.2.1 (dT d6_init 66 rfl).1 rfl ?_
    refine lv_icmp_ge (tgt := 162) O.1.1 O.1.2.1 (dT d6_init 67 rfl).1 (by decide) (fun _ => ?_) (fun z => absurd (by decide) z)
    exact fin ad h H locs f ls hl S hf ho
  | succ k ih =>
    intro i hi ad h H locs f ls hl S hf ho
    have hlt : ¬ (Int32.ofInt 20 ≤ Int32.ofInt (i : Int)) := by
      intro z
      have := (o32_lt (x := (i : Int)) (y := 20) (by omega) (by decide)).mpr (by omega)
      exact absurd z (Int32.not_le.mpr this)
    refine lv_iload_n O.1.1 O.1.2.1 (dT d6_init 65 rfl).1 rfl (lv_at hl 0 rfl) ?_
    refine lv_bipush (v := Int32.ofInt 20) O.1.1 O.1.2.1 (dT d6_init 66 rfl).1 rfl ?_
    refine lv_icmp_ge (tgt := 162) O.1.1 O.1.2.1 (dT d6_init 67 rfl).1 (by decide) (fun z => absurd z hlt) (fun _ => ?_)
    refine lv_aload_n O.1.1 O.1.2.1 (dT d6_init 68 rfl).1 rfl (lv_at hl 1 rfl) ?_
    refine c_getO O (z := 0) (k := 13) S rfl rfl (by decide) cf_6_65 hfs (dT d6_init 69 rfl).1 ?_
    refine lv_iload_n O.1.1 O.1.2.1 (dT d6_init 70 rfl).1 rfl (lv_at hl 0 rfl) ?_
    refine c_new O (ci := 0) (ty := tyX0) (dv := [.int 0, .int 0, .int 0, .int 0, .int 0, .int 0, .int 0, .null, .null, .null, .null, .null]) S rfl tyX0_ok klRX6_24 ki2_X0 ki_X0 (fun j hj => by have hj : j < 12 := hj; rcases (show j = 0 ∨ j = 1 ∨ j = 2 ∨ j = 3 ∨ j = 4 ∨ j = 5 ∨ j = 6 ∨ j = 7 ∨ j = 8 ∨ j = 9 ∨ j = 10 ∨ j = 11 by omega) with rfl | rfl | rfl | rfl | rfl | rfl | rfl | rfl | rfl | rfl | rfl | rfl <;> rfl) (by omega) (by show slots + 204 * i + 12 ≤ _; omega) (dT d6_init 71 rfl).1 (dT d6_init 72 rfl).1 (fun w Hn Sn => ?_)
    have fx : mFx D cA ad A s s.heap := mFx_ad (fun r j hr => (ho r j (fun y => by have := (mem_hB i r j).1 y; omega)).1) FX
    refine c_init O (as := []) Sn fx AO hl.1 (ct_book (4 + (i : Int))) mc_0 cl_6_26 rfl (fun q hq z => ?_) (fun q hq => by cases hq) (Or.inl (fun j z => ?_)) (fun q hq t ht => List.mem_append_right _ (clB _ q hq t ht)) ⟨hR.1, hR.2⟩ ⟨by omega, by show slots + 204 * i + 12 + 192 ≤ _; omega⟩ (Nat.le_of_ble_eq_true rfl) (dT d6_init 73 rfl).1 (fun ad2 h2 H2 l2 ho2 ha2 hi2 S2 => ?_)
    · simp at hq
      have hq2 : 1 ≤ q.1 ∧ q.1 ≤ 6 ∧ q.2 = 4 + (i : Int) := by
        rcases hq with rfl | rfl | rfl | rfl | rfl | rfl <;> simp
      rcases List.mem_append.mp z with y | y
      · exact hids q.1 q.2 ⟨hq2.1, hq2.2.1⟩ (by omega) (by omega) y
      · have := (mem_hB i q.1 q.2).1 y
        omega
    · rcases List.mem_append.mp z with y | y
      · exact h27 j y
      · have := (mem_hB i 27 j).1 y
        omega
    · have hbk : (w, Sum.inr (0, mFs ad2 h2 1 (4 + (i : Int)) [none, none, none, none, none, none, none, some (2, fun i => i), some (3, fun i => i), some (4, fun i => i), some (5, fun i => i), some (6, fun i => i)])) ∈ ([(a, Sum.inr (6, fs)), (wh, Sum.inl (cA 4, 20, Sum.inr (Sum.inr (Sum.inr (Sum.inr f)))))] : va_W) ++ mW cA ad2 (ids ++ hB i ++ nB (4 + (i : Int))) h2 := by
        refine List.mem_append_right _ (List.mem_map.mpr ⟨(1, 4 + (i : Int)), List.mem_append_right _ (by simp), ?_⟩)
        show (ad2 1 (4 + (i : Int)), mEnt cA ad2 h2 (1, 4 + (i : Int))) = _
        rw [ha2, mEnt_inr (ci := 0) rfl]
      obtain ⟨zk, hzk⟩ := List.getElem?_of_mem hbk
      obtain ⟨hP2, hD2, hS2, hC2⟩ := S2
      have hin : vp_in (Int32.ofInt (i : Int)) 20 := o32_in (n := 20) (by omega) (by omega) (by decide)
      refine va_astq O.1.1 O.1.2.1 O.2.2.1 hP2 hD2 hS2 1 4 zk 0 rfl rfl hzk rfl hin (dT d6_init 74 rfl).1 (fun H3 l3 hP3 hD3 hS3 => ?_)
      have ecl : (Int32.ofInt (i : Int)).toNatClampNeg = i := by rw [o32_clamp (by omega) (by omega)]; omega
      rw [ecl] at hP3 hD3
      refine lv_iinc (v := Int32.ofInt ((i + 1 : Nat) : Int)) (lv' := [(1, .int (Int32.ofInt ((i + 1 : Nat) : Int))), (0, .ref a)]) O.1.1 O.1.2.1 (dT d6_init 75 rfl).1 hl (k := 0) rfl (by rw [show ((i + 1 : Nat) : Int) = (i : Int) + 1 by omega, Int32.ofInt_add]) (by decide) rfl (fun ls2 hl2 => ?_)
      refine lv_goto (tgt := 137) O.1.1 O.1.2.1 (dT d6_init 76 rfl).1 (by decide) ?_
      have fin2 := ih (i + 1) (by omega) ad2 h2 H3 l3 (va_up f i (some w)) ls2 hl2 ⟨?_, ?_, hS3, ?_⟩ (fun j hj => ?_) (fun r j hz => ?_)
      · rw [show cells + 6 * i + 1 + 5 = cells + 6 * (i + 1) by omega, show slots + 204 * i + (RX0, TX0, 12).2.2 + 192 = slots + 204 * (i + 1) by show slots + 204 * i + 12 + 192 = _; omega]
        exact fin2
      · have ea : ids ++ hB (i + 1) = ids ++ hB i ++ nB (4 + (i : Int)) := (List.append_assoc _ _ _).symm
        rw [ea]
        exact hP3
      · have ea : ids ++ hB (i + 1) = ids ++ hB i ++ nB (4 + (i : Int)) := (List.append_assoc _ _ _).symm
        rw [ea]
        exact hD3
      · have ea : ids ++ hB (i + 1) = ids ++ hB i ++ nB (4 + (i : Int)) := (List.append_assoc _ _ _).symm
        rw [ea]
        exact hC2
      · by_cases u : j = i
        · rw [u, va_up_self, ha2]
        · rw [va_up_ne _ _ u, hf j (by omega), (ho2 1 (4 + (j : Int)) (fun y => by simp at y; omega)).1]
      · have z1 : (r, j) ∉ hB i := fun y => hz (List.mem_append_left _ y)
        have z2 : (r, j) ∉ nB (4 + (i : Int)) := fun y => hz (List.mem_append_right _ y)
        exact ⟨(ho2 r j z2).1.trans (ho r j z1).1, (ho2 r j z2).2.trans (ho r j z1).2⟩
/-- the row of what can be undone is whole -/
theorem c_closeH {wh : Nat} {X : Nat × va_E} {ad : Nat → Int → Nat} {ids : List (Nat × Int)} {h : mH} {H0 H : Heap} {locs : List Loc} {f : Nat → Option Nat} (S : cSt D cA A H0 [X, (wh, .inl (cA 4, 20, .inr (.inr (.inr (.inr f)))))] ad ids h H locs) (hf : ∀ j : Nat, j < 20 → f j = some (ad 1 (4 + (j : Int)))) (h27 : ∀ j, (27, j) ∉ ids) (hm : ∀ k : Nat, k < 20 → (1, 4 + (k : Int)) ∈ ids) : cSt D cA A H0 [X] (adU ad 27 0 wh) (ids ++ [(27, 0)]) (rs h 27 0 (fun _ => 0)) H locs := by
  obtain ⟨hP, hD, hS, hC⟩ := S
  have hat : va_at D vwCl (wh, .inl (cA 4, 20, .inr (.inr (.inr (.inr (fun j : Nat => some (ad 1 (4 + (j : Int))))))))) H := by
    have h1 := hP 1 _ rfl
    have h2 : H[wh]? = some (arrV (cA 4) 20 (fun j => va_rf (f j))) := h1
    show H[wh]? = some (arrV (cA 4) 20 (fun j => va_rf (some (ad 1 (4 + (j : Int))))))
    rw [h2, arrV_congr (f := fun j => va_rf (f j)) (g := fun j => va_rf (some (ad 1 (4 + (j : Int))))) (fun j hj => by rw [hf j hj])]
  have ew : [X] ++ mW cA (adU ad 27 0 wh) (ids ++ [(27, 0)]) (rs h 27 0 (fun _ => 0)) = ([X] ++ mW cA ad ids h) ++ [(wh, .inl (cA 4, 20, .inr (.inr (.inr (.inr (fun j : Nat => some (ad 1 (4 + (j : Int)))))))))] := by
    rw [mW_app, mW_new hC (h27 0) (fun j => Or.inl (h27 j)) (fun z _ n hz => mT4 hz)]
    have e1 : mW cA (adU ad 27 0 wh) [(27, 0)] (rs h 27 0 (fun _ => 0)) = [(wh, .inl (cA 4, 20, .inr (.inr (.inr (.inr (fun j : Nat => some (ad 1 (4 + (j : Int)))))))))] := by
      show [(adU ad 27 0 wh 27 0, mEnt cA (adU ad 27 0 wh) (rs h 27 0 (fun _ => 0)) (27, 0))] = _
      rw [adU_e]
      have : (fun j : Nat => some (adU ad 27 0 wh 1 (4 + (j : Int)))) = (fun j : Nat => some (ad 1 (4 + (j : Int)))) := funext (fun j => by rw [adU_o (ne_r (by decide))])
      show [(wh, Sum.inl (cA 4, (20, Sum.inr (Sum.inr (Sum.inr (Sum.inr (fun j : Nat => some (adU ad 27 0 wh 1 (4 + (j : Int)))))))))) ] = _
      rw [this]
    rw [e1, List.append_assoc]
  have hp : ([X, (wh, Sum.inl (cA 4, 20, Sum.inr (Sum.inr (Sum.inr (Sum.inr (fun j : Nat => some (ad 1 (4 + (j : Int)))))))))] ++ mW cA ad ids h).Perm (([X] ++ mW cA ad ids h) ++ [(wh, Sum.inl (cA 4, 20, Sum.inr (Sum.inr (Sum.inr (Sum.inr (fun j : Nat => some (ad 1 (4 + (j : Int)))))))))]) := by
    refine List.Perm.cons X ?_
    exact (List.perm_append_singleton _ (mW cA ad ids h)).symm
  have hP2 : va_P D vwCl ([X, (wh, Sum.inl (cA 4, 20, Sum.inr (Sum.inr (Sum.inr (Sum.inr (fun j : Nat => some (ad 1 (4 + (j : Int)))))))))] ++ mW cA ad ids h) H := by
    refine wP_mem.mpr (fun q hq => ?_)
    rcases List.mem_cons.mp hq with z | z
    · rw [z]; exact hP 0 _ rfl
    · rcases List.mem_cons.mp z with y | y
      · rw [y]; exact hat
      · exact wP_mem.mp hP q (List.mem_cons_of_mem _ (List.mem_cons_of_mem _ y))
  have hD2 : va_D A ([X, (wh, Sum.inl (cA 4, 20, Sum.inr (Sum.inr (Sum.inr (Sum.inr (fun j : Nat => some (ad 1 (4 + (j : Int)))))))))] ++ mW cA ad ids h) := by
    obtain ⟨d1, d2⟩ := wD_iff.mp hD
    refine wD_iff.mpr ⟨d1, fun q hq => ?_⟩
    rcases List.mem_cons.mp hq with z | z
    · rw [z]; exact d2 X List.mem_cons_self
    · rcases List.mem_cons.mp z with y | y
      · rw [y]; exact d2 (wh, .inl (cA 4, 20, .inr (.inr (.inr (.inr f))))) (List.mem_cons_of_mem _ List.mem_cons_self)
      · exact d2 q (List.mem_cons_of_mem _ (List.mem_cons_of_mem _ y))
  refine ⟨by rw [ew]; exact wP_perm hp hP2, by rw [ew]; exact wD_perm hp hD2, hS, closed_app hC (fun q hq t ht => ?_)⟩
  rw [List.mem_singleton.mp hq] at ht
  have ht2 : t ∈ (List.range 20).map (fun (k : Nat) => ((1, 4 + (k : Int)) : Nat × Int)) := ht
  obtain ⟨k, hk, rfl⟩ := List.mem_map.mp ht2
  exact List.mem_append_left _ (hm k (List.mem_range.mp hk))
end CTOR6
