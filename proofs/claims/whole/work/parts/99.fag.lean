/-! THE CLAIM OUT OF ONE WALK OF THE LAW'S BODY. Your part is whole_start (and what it stands on); all else here is the same for every law, but numbers. -/
def R_law : String := "RateOfficeLaw"
def lw_P (b : Addr) (xs : List Int32) (args : Array Value) (s : State) : Prop := args = #[.ref b] ∧ s.IntsAt b xs ∧ xs.length ≤ 3072 ∧ (Jvm.Cond.and given_1 narrow_1).before args s = true
def lw_Q (_ : Array Value) (s : State) (o : Outcome) (t : State) : Prop := o = .returned (some (.int 1)) ∧ Framed s o t [] 601024 7293034
def lw_Z (below : List Frame) (a : Array Value) (s : State) : State → Prop := fun t => ∃ o, t.status = .running ∧ Ended t below o ∧ lw_Q a s o t
/-- the law's own end, with 1 on the stack, nothing written that was there before, its room as the claim has it -/
theorem lw_ret {p : Program} {l : Launch} {e : Env} {s : State} {m : MethodId} {below : List Frame} {meth : Method} {c : Code} {b : Nat} (hx : p.tables.exec = Jvm.exec) (hb : c.code = code) (hr : meth.sig.returnType = ret) (hlocks : meth.locks = false) {pc : Nat} {H : Heap} {ls : Array Slot} (hdg : decode code pc = .ok (.ireturn, 1)) : W p l e room_1 s m #[Value.ref b] below meth c H [] 601024 7293034 (lw_Z below #[Value.ref b] s) (F0 m pc ls [.int 1]) := by
  intro T hT X
  obtain ⟨fs, hret, hrun, hended, hW, hframe⟩ := X.leave (v := some (.int 1)) (hlocks := hlocks) (fun h => by rw [hr] at h; cases h)
  have hmeth' : T.vm.method? m = some meth := X.method'
  refine ⟨T.setFrames fs, ?_, .returned (some (.int 1)), hrun, hended, rfl, ⟨_, rfl⟩, hW, hframe⟩
  jvm_step X.here [X.here.top, hx, hb, hdg, hmeth', hr, ret, narrow_b1]
  (try refine ⟨rfl, ?_⟩); (try refine ⟨rfl, ?_⟩)
  first | (intro acts; rw [hret _ acts rfl rfl rfl]) | rw [hret _ _ rfl rfl rfl]
  exact Steps.refl _
/-- what holds at the law's entry: the machine, the code, the tables' words (any of lw_tbl by 'hts w (by decide +kernel)'), the script of L ints xs at the cell b, what the Statement gives of the start (any of its parts by flat_of_before) -/
def lw_At (p : Program) (s : State) (m : MethodId) (meth : Method) (c : Code) (b L : Nat) (xs : Nat → Int32) : Prop :=
  p.tables.exec = Jvm.exec ∧ c.code = code ∧ meth.sig.returnType = ret ∧ c.maxLocals = 7 ∧ s.vm.findClass R_law = some m.cls ∧ (∀ w ∈ lw_tbl, w.before #[Value.ref b] s = true) ∧ va_X b L xs s s.heap ∧ b < s.heap.size ∧ meth.locks = false ∧ (Jvm.Cond.and given_1 narrow_1).before #[Value.ref b] s = true
/-! the law in the small machine: its surroundings, its rows -/
def ML_law : mMs := (yL_law, cL_law, 7, (some .boolean), 15)
def xv (xs : Nat → Int32) (z : Int) : Int := (xs z.toNat).toInt
theorem xv_r (xs : Nat → Int32) (z : Int) : mInR (xv xs z) := ⟨Int32.le_toInt _, Int32.toInt_lt _⟩
def cB : Nat := 193
def sB : Nat := 30000
def LwP (n : Nat) (xs : Nat → Int32) (k : Nat) (G : mG) : Prop :=
  (G.2.2.2.2.2.2 = lw_Z G.2.1.2.2.1 G.2.1.2.1 (mGs G) ∧ G.1.2.2.2.1 = room_1 ∧ G.2.1.2.1 = #[Value.ref (mGad G 70 0)] ∧ ∀ q, mGA G q → (mGs G).heap.size ≤ q) ∧
  (G.2.2.2.2.1 = cB + k ∧ G.2.2.2.2.2.1 = sB + 6 * k) ∧ G.1.2.1.stackTraces = false ∧ mX (mGA G) (mGs G) (mGs G).heap ∧ (va_X (mGad G 70 0) n xs (mGs G) (mGs G).heap ∧ mGad G 70 0 < (mGs G).heap.size)
section LAWROWS
variable {n : Nat} {xs : Nat → Int32} {k pc : Nat} {L st : List mV} {h : mH}
theorem LwP.up {G : mG} (hF : LwP n xs k G) : LwP n xs (k + 1) (mUp G (G.2.2.2.2.1 + 1) (G.2.2.2.2.2.1 + 6)) := by
  obtain ⟨h1, ⟨h2, h3⟩, h4⟩ := hF
  exact ⟨h1, ⟨by show _ + 1 = _; rw [h2]; rfl, by show _ + 6 = _; rw [h3]; omega⟩, h4⟩
theorem LwP.room {G : mG} (hk : k < 600) (hF : LwP n xs k G) : G.2.2.2.2.1 + 1 ≤ G.1.2.2.2.1.cells ∧ G.2.2.2.2.2.1 + 6 ≤ G.1.2.2.2.1.slots := by
  obtain ⟨h1, ⟨h2, h3⟩, h4⟩ := hF
  rw [h2, h3, h1.2.1]
  have e1 : room_1.cells = 601024 := rfl
  have e2 : room_1.slots = 7293034 := rfl
  rw [e1, e2]
  unfold cB sB
  omega
/-- a cell and six slots are given away -/
theorem LwP.bump (hk : k < 600) (kk : At (LwP n xs (k + 1)) ML_law pc L st h) : At (LwP n xs k) ML_law pc L st h := by
  intro G hF V H locs ls hP hS hL v1 v2
  refine W.widen (Nat.le_add_right _ 1) (Nat.le_add_right _ 6) ?_
  exact kk _ hF.up (mUp_ok V (hF.room hk)) H locs ls hP hS hL v1 v2
/-- the script's length, the script's ints -/
theorem mw_sclen {pc' : Nat} (hd : mDc ML_law pc (.arraylength) 1 pc') (kk : At (LwP n xs k) ML_law pc' L (mI (n : Int) :: st) h) : At (LwP n xs k) ML_law pc L (mR 70 0 :: st) h := by
  obtain ⟨hd, rfl⟩ := hd
  intro G hF V H locs ls hP hS hL v1 v2
  exact va_slen V.1.1 V.1.2.1 hF.2.2.2.2.1 hF.2.2.2.2.2 (fun z => absurd (hF.1.2.2.2 _ z) (Nat.not_le.mpr hF.2.2.2.2.2)) hS hd (kk G hF V H locs ls hP hS hL v1 (mVs.cons trivial v2.tl))
theorem mw_sld {pc' : Nat} {x : Int} (hd : mDc ML_law pc (.iaload) 1 pc') (hn : n ≤ 3072) (hx : 0 ≤ x ∧ x < n) (kk : At (LwP n xs k) ML_law pc' L (mI (xv xs x) :: st) h) : At (LwP n xs k) ML_law pc L (mI x :: mR 70 0 :: st) h := by
  obtain ⟨hd, rfl⟩ := hd
  intro G hF V H locs ls hP hS hL v1 v2
  refine va_sld (L := n) (xs := xs) V.1.1 V.1.2.1 hF.2.2.2.2.1 hF.2.2.2.2.2 (fun z => absurd (hF.1.2.2.2 _ z) (Nat.not_le.mpr hF.2.2.2.2.2)) hS (i := Int32.ofInt x) (o32_in hx.1 hx.2 (by omega)) hd ?_
  rw [o32_clamp hx.1 (by omega)]
  have e : mIv (mGad G) (mI (xv xs x)) = .int (xs x.toNat) := by
    show Value.int (Int32.ofInt (xs x.toNat).toInt) = _
    rw [Int32.ofInt_toInt]
  rw [← e]
  exact kk G hF V H locs ls hP hS hL v1 (mVs.cons trivial v2.tl.tl)
/-- script[i + j] -/
theorem ld {i j : Int} {p1 p2 p3 p4 p5 : Nat} (d1 : mDc ML_law pc (.aload_n 0) 1 p1) (d2 : mDc ML_law p1 (.iload 4) 2 p2) (d3 : mDc ML_law p2 (.iconst j) 1 p3) (d4 : mDc ML_law p3 (.iadd) 1 p4) (d5 : mDc ML_law p4 (.iaload) 1 p5) (h0 : L[0]? = some (mR 70 0)) (h4 : L[4]? = some (mI i)) (hn : n ≤ 3072) (hx : 0 ≤ i + j ∧ i + j < n) (kk : At (LwP n xs k) ML_law p5 L (mI (xv xs (i + j)) :: st) h) : At (LwP n xs k) ML_law pc L st h :=
  mw_aload_n d1 h0 (by decide) (mw_iload d2 h4 (mw_iconst d3 (mw_iadd d4 (mw_sld d5 hn hx kk))))
/-- two answers that are the same -/
theorem mw_icmp_same {F : mG → Prop} {M : mMs} {x off : Int} (tgt : Nat) {pc' : Nat} (hd : mDc M pc (.if_icmp .eq off) 3 pc') (ht : (pc : Int) + off = (tgt : Int)) (kt : At F M tgt L st h) : At F M pc L (mI x :: mI x :: st) h := by
  obtain ⟨hd, rfl⟩ := hd
  intro G hF V H locs ls hP hS hL v1 v2
  exact lv_icmp_eq V.1.1 V.1.2.1 hd ht (fun z => kt G hF V H locs ls hP hS hL v1 v2.tl.tl) (fun z => absurd rfl z)
theorem mw_lif_same {F : mG → Prop} {M : mMs} {x off : Int} {pc1 pc' : Nat} (tgt : Nat) (hd : mDc M pc (.lcmp) 1 pc1) (hd2 : mDc M pc1 (.ifCond .eq off) 3 pc') (ht : (pc1 : Int) + off = (tgt : Int)) (kt : At F M tgt L st h) : At F M pc L (mJ x :: mJ x :: st) h := by
  obtain ⟨hd, rfl⟩ := hd
  obtain ⟨hd2, rfl⟩ := hd2
  intro G hF V H locs ls hP hS hL v1 v2
  exact W.lcmp V.1.1 V.1.2.1 hd (lv_if_eq V.1.1 V.1.2.1 hd2 ht (fun z => kt G hF V H locs ls hP hS hL v1 v2.tl.tl) (fun z => absurd ((lg_cmp_eq _ _).mpr rfl) z))
/-- the end -/
theorem mw_endL {pc' : Nat} (hk : k < 600) (hd : mDc ML_law pc (.ireturn) 1 pc') : At (LwP n xs k) ML_law pc L [mI 1] h := by
  obtain ⟨hd, rfl⟩ := hd
  rintro ⟨⟨p, l, e, R, s⟩, ⟨m, args, below, meth, c⟩, ⟨D, cA, ad, ids⟩, ⟨A, cells, slots, Q⟩⟩ hF V H locs ls hP hS hL v1 v2
  have hr := hF.room hk
  obtain ⟨⟨f1, f2, f3, f4⟩, -⟩ := hF
  have g1 : Q = lw_Z below args s := f1
  have g2 : R = room_1 := f2
  have g3 : args = #[Value.ref (ad 70 0)] := f3
  have f4 : ∀ q, A q → s.heap.size ≤ q := f4
  have hr : cells + 1 ≤ R.cells ∧ slots + 6 ≤ R.slots := hr
  have w1 : p.tables.exec = Jvm.exec := V.1.1
  have w2 : c.code = code := V.1.2.1
  have w3 : meth.sig.returnType = ret := V.2.1.1
  have w4 : meth.locks = false := V.2.1.2
  have hS2 : ∀ q ∈ locs, A q.base := hS.2.2
  show W p l e R s m args below meth c H locs cells slots Q (F0 m pc ls [.int 1])
  clear f1 f2 f3 V hS hP hL
  subst g1
  subst g2
  subst g3
  have e1 : room_1.cells = 601024 := rfl
  have e2 : room_1.slots = 7293034 := rfl
  rw [e1, e2] at hr
  refine va_forget (fun q hq => f4 _ (hS2 q hq)) (W.widen (k := 601024) (n := 7293034) (by omega) (by omega) ?_)
  exact lw_ret w1 w2 w3 w4 hd
end LAWROWS
