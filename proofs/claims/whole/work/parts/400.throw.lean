/-! ===== throws of thing and row, and their catching ===== -/
def nse : String := "java/util/NoSuchElementException"
def nsN : List String := ["java/lang/RuntimeException", "java/lang/Exception"]
def XcT (E : Ev) (S : List Sh) (σ : Sg) : String → State → State → Prop := fun X st t => X = nse ∧ HR E S σ t t.heap ∧ va_F (AE E) st t
def QcF : Array Value → State → Outcome → State → Prop := fun _ _ _ _ => False
/-- a method that throws -/
def Xm (E : Ev) (d : Nat) (y : MethodName) (cc : ByteArray) (nL : Nat) (ret : Option FieldType) (av : List Value) (S : List Sh) (σ : Sg) : Prop :=
  vx_Met E.1 y (Cond.code y cc nL ret :: lw_good) (rmD d 1 6) (fun a U => a = (av.map (tr E)).toArray ∧ HR E S σ U U.heap ∧ OL E U U.heap) QcF (XcT E S σ) 1 6 (AE E)
def EnX (E : Ev) (Z : Zx) (S : List Sh) (σ : Sg) : Prop :=
  match Z with
  | ((_, _, s, _, args, below, _, c), _, _, Q) => Q = vx_MQ below QcF (XcT E S σ) args s 1 6 (AE E) ∧ ∀ x ∈ c.exceptionTable.toList, False
theorem Xm.intro {E : Ev} {d : Nat} {y : MethodName} {cc : ByteArray} {nL : Nat} {ret : Option FieldType} {av : List Value} {S : List Sh} {σ : Sg} (hy : plainName y.cls = true) (hn : (lg_sl av).length ≤ nL) (h : ∀ Z : Zx, Ctx E Z y.cls cc ret nL d 1 6 → EnX E Z S σ → Wm E Z 0 0 S σ 0 (lv_args 0 av) []) : Xm E d y cc nL ret av S σ := by
  refine vx_ofW (cc := cc) (maxL := nL) (ret := ret) hy rfl ?_
  intro p e s m args below meth c s₁ B hml htab hv
  obtain ⟨rfl, hH, hO⟩ := hv
  have hts := atoms_spec (ws := Cond.code y cc nL ret :: lw_good) B.pre
  have hown : s.vm.findClass y.cls = some m.cls := findClass_of_methodNamed B.named
  have hb0 : E.2.2.2 ≤ s.heap.size := by obtain ⟨_, _, _, _, _, _, h⟩ := hH; exact h
  have k := h ((p, e, s, m, (av.map (tr E)).toArray, below, meth, c), rmD d 1 6, nL, vx_MQ below QcF (XcT E S σ) (av.map (tr E)).toArray s 1 6 (AE E)) ⟨B.exec, B.bytes, B.returns, B.notSynchronized, hml, rfl, rfl, hown, fun w hw => hts w (List.mem_cons_of_mem _ hw), hO, hb0⟩ ⟨rfl, htab⟩
  rw [lg_entry_eq]
  refine k s.heap [] _ hH va_S.rf ?_
  rw [← lv_args_tr]
  exact lv_entry (av.map (tr E)) (by rw [lg_sl_tr]; exact hn)
/-- the words of 'throw new NoSuchElementException(text)': its constructor calls its parent's by the entry 13 -/
def nsA : List Cond := Bundle.throwableAtoms ++ Bundle.throwableSAtoms ++ (Bundle.passSAtoms nse "java/lang/RuntimeException" 13 prog_25_method_4_code ++ Bundle.chainSAtoms "java/lang/RuntimeException" ["java/lang/Exception"]) ++
  [.methodLink RX8 145 (Bundle.initS nse), .instantiable nse 6, .castable nse nse, .selects nse Bundle.tFill0 Bundle.tFill0, .selects nse Bundle.tFill Bundle.tFill,
   .lays nse Bundle.tN "cause" "Ljava/lang/Throwable;", .lays nse Bundle.tN "stackTrace" Bundle.steD, .lays nse Bundle.tN "suppressedExceptions" Bundle.listD, .lays nse Bundle.tN "detailMessage" "Ljava/lang/String;",
   .isRef (.static Bundle.tN "UNASSIGNED_STACK" Bundle.steD), .isRef (.static Bundle.tN "SUPPRESSED_SENTINEL" Bundle.listD),
   .fieldLink Bundle.tN 198 Bundle.tN "backtrace" "Ljava/lang/Object;", .lays Bundle.tN Bundle.tN "backtrace" "Ljava/lang/Object;", .lays nse Bundle.tN "backtrace" "Ljava/lang/Object;"]
def nsB : List Cond := nsA.filter vx_no
theorem ns_in : ∀ w ∈ nsB, w ∈ lw_tbl := by decide +kernel
theorem ns_b : ∀ w ∈ nsB, goodWord w = true ∨ nwB w = true := by decide +kernel
theorem ns_l : Cond.classLink RX8 141 nse ∈ lw_tbl := by decide +kernel
theorem ns_i : Cond.initialized nse ∈ lw_tbl := by decide +kernel
theorem ns_g : ∀ w ∈ Cond.classLink RX8 141 nse :: Cond.initialized nse :: nsB, vx_ot w = true := by decide +kernel
theorem ns_hat {E : Ev} {s : State} {args : Array Value} (hts : ∀ w ∈ lw_good, w.before args s = true) (hO : OL E s s.heap) : ∀ w ∈ nsB, w.before args s = true := by
  intro w hw
  rcases ns_b w hw with h | h
  · exact hts w (List.mem_filter.mpr ⟨ns_in w hw, h⟩)
  · exact va_Nw.use (nw_tab h) (hO.2.2.2.2 w (List.mem_filter.mpr ⟨ns_in w hw, h⟩))
section Thrown
variable {p : Program} {l : Launch} {e : Env} {R : Room} {s : State} {m₀ : MethodId} {args : Array Value} {below : List Frame} {meth : Method} {c : Code} {W : State} {locs : List Loc} {cells slots : Nat}
set_option maxHeartbeats 4000000 in
/-- the constructor's run and the throw: after the library's ctorThrowS, for a constructor whose call of its parent is the entry 13 -/
theorem ns_ctor (X : Stand p l e R s m₀ args below meth c W locs cells slots) (hexec : p.tables.exec = Jvm.exec) (htr : e.platform.stackTraces = false)
    (hown : s.vm.findClass RX8 = some m₀.cls) (h : ∀ a ∈ nsA, a.before args s = true)
    (hlocs : ∀ x ∈ locs, ∀ cell, s.heap[x.base]? = some cell → cell.vm.isStatics = false)
    {a : Addr} {cX : ClassId} {kX : Class} (hfoundX : s.vm.findClass nse = some cX) (hkX : s.vm.classes[cX]? = some kX) (hcell : W.heap[a]? = some (freshCell cX kX)) (hnew : s.heap.size ≤ a)
    {msg : Value} (hmsg : msg.isRef = true)
    {g : JFrame} (hg : g.method = m₀) (hsize : g.locals.size = c.maxLocals) (hlocked : g.locked = none) (hentered : g.entered = []) {rest : List Value} (hstack : g.stack = msg :: .ref a :: .ref a :: rest)
    (hd6 : decode c.code g.pc = .ok (.invokespecial 145, 3)) (hd9 : decode c.code (g.pc + 3) = .ok (.athrow, 1)) (hout : ∀ x ∈ c.exceptionTable.toList, covers x (g.pc + 3) = false)
    (hRframes : 2 + 3 < R.frames) (hRlocals : 2 * g.monitorRoom + ((Value.ref a :: rest).map fun v => v.category).sum + (13 * (2 + 1) + 42) ≤ R.locals) (hlocks : meth.locks = false) :
    ∃ U : State, Steps p.tables e below (W.setTop g) U ∧ U.status = .running ∧ Ended U below (.threw a) ∧ s.WarmedH U.vm ∧ s.sameButNew ({ U with vm := s.vm } : State) locs cells slots ∧
      ∃ ce : Cell, U.heap[a]? = some ce ∧ ce.vm = .none ∧ s.vm.findClass nse = some ce.cls := by
  have hcls : Bundle.fit nse = true := by decide +kernel
  have howns : e.platform.frameOwnsMonitors = true := by rw [X.admits.platform]
  have hfin : e.platform.finalization = false := by rw [X.admits.platform]
  have hpl : e.platform.magicAccessors = ({} : Platform).magicAccessors := by rw [X.admits.platform]
  have hp : ∀ x ∈ Bundle.passSAtoms nse "java/lang/RuntimeException" 13 prog_25_method_4_code, x.before args s = true := fun x hx => h x (by unfold nsA; exact List.mem_append_left _ (List.mem_append_right _ (List.mem_append_left _ hx)))
  have ht : ∀ x, x ∈ nsA.drop (nsA.length - 14) → x.holds args s none s [] = true := fun x hx => h x (List.mem_of_mem_drop hx)
  obtain ⟨T, Z0, L, -, Y⟩ := ThrowableC.of_atoms (args := args) howns hfin hpl (fun x hx => h x (by unfold nsA; exact List.mem_append_left _ (List.mem_append_left _ (List.mem_append_left _ hx))))
  obtain ⟨Z, M, LZ, LM, hnZ⟩ := Init0T.ofS_atoms (args := args) hpl L Y (fun x hx => h x (by unfold nsA; exact List.mem_append_left _ (List.mem_append_left _ (List.mem_append_right _ hx))))
  obtain ⟨P1, L1, hP1m, hs1⟩ := PassC.ofS_atoms (args := args) (s := s) hpl (X := nse) (Y := "java/lang/RuntimeException") (index := 13) (bytes := prog_25_method_4_code) (Bundle.fit_spec hcls).1 (by decide) (by decide +kernel) (by decide +kernel) (by decide +kernel) (by decide +kernel) hp
  obtain ⟨P', Ps, hlen, L', hL, hm', hsup, hpass⟩ := Bundle.chainS (args := args) hpl hnZ ["java/lang/Exception"] "java/lang/RuntimeException" (by decide +kernel) (by decide +kernel) (fun x hx => h x (by unfold nsA; exact List.mem_append_left _ (List.mem_append_right _ (List.mem_append_right _ hx))))
  have hfound : s.vm.findClass nse = some P1.m.cls := findClass_of_methodNamed hP1m
  cases Option.some.inj (hfoundX.symm.trans hfound)
  obtain ⟨c1, kX', hc1, hk, hord, -, -, hn6⟩ := Cond.instantiable_spec (ht (.instantiable nse 6) (by decide +kernel))
  cases Option.some.inj (hc1.symm.trans hfound)
  cases Option.some.inj (hkX.symm.trans hk)
  have hsel0 : selectMethod e.platform s.vm P1.m.cls T.fill0 = .method T.fill0 := by
    obtain ⟨c2, r2, m2, q1, q2, q3, q4, -⟩ := Cond.selects_spec (ht (.selects nse Bundle.tFill0 Bundle.tFill0) (by decide +kernel))
    cases Option.some.inj (q1.symm.trans hfound)
    cases Option.some.inj (q2.symm.trans (State.methodFound?_of_named Y.fill0 (by decide)))
    cases Option.some.inj (q3.symm.trans Y.fill0)
    rw [Launch.admits_selectMethod X.admits]; exact q4
  have hselF : selectMethod e.platform s.vm P1.m.cls T.fill = .method T.fill := by
    obtain ⟨c2, r2, m2, q1, q2, q3, q4, -⟩ := Cond.selects_spec (ht (.selects nse Bundle.tFill Bundle.tFill) (by decide +kernel))
    cases Option.some.inj (q1.symm.trans hfound)
    cases Option.some.inj (q2.symm.trans (State.methodFound?_of_named Y.fill (by decide)))
    cases Option.some.inj (q3.symm.trans Y.fill)
    rw [Launch.admits_selectMethod X.admits]; exact q4
  obtain ⟨cellS0, hcS0, hiss⟩ := Y.statics
  obtain ⟨u0, hu0⟩ := Cond.staticRefV Y.unassigned L.unassignedStatic L.statics hcS0 hiss (ht (.isRef (.static Bundle.tN "UNASSIGNED_STACK" Bundle.steD)) (by decide +kernel))
  obtain ⟨sen, hsen⟩ := Cond.staticRefV Y.sentinel L.sentinelStatic L.statics hcS0 hiss (ht (.isRef (.static Bundle.tN "SUPPRESSED_SENTINEL" Bundle.listD)) (by decide +kernel))
  obtain ⟨ci198, i198, fB, hk198, hg198, ha198, hsB, -, hnB, htB, hffB⟩ := Cond.ownField (t := .object "java/lang/Object") Y.found L.cls (by decide +kernel) (ht (.fieldLink Bundle.tN 198 Bundle.tN "backtrace" "Ljava/lang/Object;") (by decide +kernel)) (ht (.lays Bundle.tN Bundle.tN "backtrace" "Ljava/lang/Object;") (by decide +kernel)) e.platform hpl
  obtain ⟨cellS, hcS', heS, -, hkeep⟩ := X.same.2.2.2.2.2 T.aS cellS0 hcS0
  have hcellS : W.heap[T.aS]? = some cellS := hcS'
  have hout' : ∀ i, (⟨T.aS, i⟩ : Loc) ∉ locs := fun i hmem => by
    have := hlocs _ hmem cellS0 hcS0
    rw [hiss] at this; cases this
  have hknownS : cellS.vm ≠ .unknown := by
    rw [heS]; intro hu
    rw [show cellS0.vm = .unknown from hu] at hiss
    cases hiss
  have hneS : T.aS ≠ a := Nat.ne_of_lt (Nat.lt_of_lt_of_le (Array.getElem?_eq_some_iff.mp hcS0).1 hnew)
  obtain ⟨iM, hffM⟩ := Y.msg
  obtain ⟨tyC, dC, hdC, hdnC⟩ := Cond.laysAt hfound hk Y.cause (ht (.lays nse Bundle.tN "cause" "Ljava/lang/Throwable;") (by decide +kernel))
  obtain ⟨tyS, dS, hdS, hdnS⟩ := Cond.laysAt hfound hk Y.stack (ht (.lays nse Bundle.tN "stackTrace" Bundle.steD) (by decide +kernel))
  obtain ⟨tyP, dP, hdP, hdnP⟩ := Cond.laysAt hfound hk Y.supp (ht (.lays nse Bundle.tN "suppressedExceptions" Bundle.listD) (by decide +kernel))
  obtain ⟨tyM, dM, hdM, hdnM⟩ := Cond.laysAt hfound hk hffM (ht (.lays nse Bundle.tN "detailMessage" "Ljava/lang/String;") (by decide +kernel))
  obtain ⟨tyB, dB, hdB, hdnB⟩ := Cond.laysAt hfound hk hffB (ht (.lays nse Bundle.tN "backtrace" "Ljava/lang/Object;") (by decide +kernel))
  have bC := Cond.laysApart hdB hdC hdnB hdnC (by rw [hnB, Y.causeName]; decide)
  have bS := Cond.laysApart hdB hdS hdnB hdnS (by rw [hnB, Y.stackName]; decide)
  have bP := Cond.laysApart hdB hdP hdnB hdnP (by rw [hnB, Y.suppName]; decide)
  have hskip : SkipFacts T e.platform s (fun u => u) u0 ((preparedCellV T.toThrowableT (freshCell P1.m.cls kX) a u0 sen).withEntry W.cur) :=
    ⟨{ ci198 := ci198, i198 := i198, fBack := fB }, ⟨hk198, hg198, ha198, hsB⟩, by
      have := fresh_default (c := P1.m.cls) tyB
      rw [htB] at this
      simpa [preparedCellV, Cell.setSlot, Cell.withEntry, Array.getElem?_setIfInBounds, bC, bS, bP, bC.symm, bS.symm, bP.symm, defaultValue] using this, fun _ _ => rfl⟩
  obtain ⟨tm, methC, cdC, kC, vm₁, hnC, -, -, -, -, -, -, -, hW₁, st1⟩ := Steps.initColdS (tb := p.tables) (e := e) (below := below) (s := s) (U := W) X.here hexec X.warmed hpl hown (t := Bundle.initS nse) rfl rfl (Bundle.fit_spec hcls).2
    (ht (.methodLink RX8 145 (Bundle.initS nse)) (by decide +kernel)) (hp (.instanceMethod (Bundle.initS nse)) (by simp [Bundle.passSAtoms])) (bytes := prog_25_method_4_code) (maxL := 2) (hp (.code (Bundle.initS nse) prog_25_method_4_code 2 none) (by simp [Bundle.passSAtoms]))
    (f := g) hg (a := a) (msg := msg) (rest := .ref a :: rest) hstack hd6
  cases Option.some.inj (hnC.symm.trans hP1m)
  have X₁ := X.noted hW₁
  have hl2 : (P1 :: P' :: Ps).length = 3 := by simp [hlen]
  obtain ⟨vm₂, X₂, st2⟩ := X₁.ctorMessageOffV hexec (g := { g with stack := .ref a :: rest }) hg hsize T L Z LZ M LM (P1 :: P' :: Ps)
    (fun P hP => by rcases List.mem_cons.mp hP with rfl | hP; exact L1; rcases List.mem_cons.mp hP with rfl | hP; exact L'; exact hL P hP) ⟨Option.some.inj (hs1.symm.trans hm'), hsup, hpass⟩ (u0 := u0) (sen := sen) (self := a) hmsg (cell := freshCell P1.m.cls kX) (cellS := cellS)
    hcell (fun _ => by simp) (by simp) rfl rfl hsel0 hselF hcellS hneS hknownS (by rw [hkeep _ (hout' _)]; exact hu0) (by rw [hkeep _ (hout' _)]; exact hsen)
    (Takes.of_laid hk hord tyC (by rw [Y.causeType]; rfl)) (Takes.of_laid hk hord tyS (by rw [Y.stackType]; exact fits_refV_array _ u0)) (Takes.of_laid hk hord tyP (by rw [Y.suppType]; exact fits_refV_object _ sen))
    (Takes.of_laid hk hord tyM (by rw [Y.msgType]; exact fits_refV_object _ ⟨msg, hmsg⟩)) Y.objLocals hskip htr [] hd6
    (by rw [hl2]; omega) (by rw [hl2]; exact hRlocals)
  obtain ⟨hwalk, hrun, hended, hWU, hsame⟩ := X₂.athrowLeaves hexec (g := { g with stack := .ref a :: rest, pc := g.pc + 3 }) hg hlocked hentered hout (a := a) (rest := rest) rfl hd9
  have hlt : a < ((W.setVm vm₁).setVm vm₂).heap.size := (Array.getElem?_eq_some_iff.mp hcell).1
  have hU := heapAt_setCell_self (s := (W.setVm vm₁).setVm vm₂) (plainBareV T.toThrowableT (freshCell P1.m.cls kX) a u0 sen msg) hlt
  refine ⟨_, st1 _ (fun acts => ?_), hrun, hended, hWU, hsame.weaken (fun y hy hlt' => ?_) (Nat.le_refl _) (Nat.le_refl _), _, hU, rfl, hfound⟩
  · rw [doInvoke_state]
    exact st2 _ hwalk
  · rcases List.mem_append.mp hy with h1 | h1
    · exact h1
    · exfalso
      have hb : y.base = a := by
        simp only [List.mem_cons, List.not_mem_nil, or_false] at h1
        rcases h1 with rfl | rfl | rfl | rfl | rfl <;> rfl
      rw [hb] at hlt'
      exact Nat.not_lt.mpr hnew hlt'
end Thrown
section Ends2
variable {p : Program} {l : Launch} {e : Env} {R : Room} {s : State} {m : MethodId} {args : Array Value} {below : List Frame} {meth : Method} {c : Code} {H : Heap} {locs : List Loc} {cells slots : Nat} {Q : State → Prop}
variable {mc ms : Nat} {free : Addr → Prop} {A0 A1 : Nat → Prop} {H0 : Heap} {a : Array Value} {ls : Array Slot} {st0 rest : List Value}
variable {Qc : Array Value → State → Outcome → State → Prop} {XC : String → State → State → Prop}
theorem ns_throwS {cc : ByteArray} {pc : Nat} (hexec : p.tables.exec = Jvm.exec) (hb : c.code = cc) (hl : l.stackTraces = false) {text : String} {is mc ms sa : Nat} {A : Nat → Prop}
    (hown : s.vm.findClass RX8 = some m.cls) 
    (hk : (Cond.classLink RX8 141 nse).before args s = true) (hini : (Cond.initialized nse).before args s = true) (hstr : vk_R RX8 is text sa s) (hat : ∀ w ∈ nsB, w.before args s = true)
    (hgood : ∀ w ∈ Cond.classLink RX8 141 nse :: Cond.initialized nse :: nsB, vx_ot w = true)
    (hU : vx_Zq Bundle.tN "UNASSIGNED_STACK" Bundle.steD A s s.heap) (hN : vx_Zq Bundle.tN "SUPPRESSED_SENTINEL" Bundle.listD A s s.heap) (hS : va_S A s.heap H locs) (hsize : ls.size = c.maxLocals)
    (d0 : decode cc pc = .ok (.new 141, 3)) (d3 : decode cc (pc + 3) = .ok (.dup, 1)) (d4 : decode cc (pc + 4) = .ok (.ldc is, 2)) (d6 : decode cc (pc + 6) = .ok (.invokespecial 145, 3)) (d9 : decode cc (pc + 9) = .ok (.athrow, 1))
    (hout : ∀ x ∈ c.exceptionTable.toList, covers x (pc + 9) = false)
    (hRframes : 2 + 3 < R.frames) (hRlocals : (rest.map fun v => v.category).sum + (13 * (2 + 1) + 43) ≤ R.locals) (hRcells : cells + 1 ≤ R.cells) (hRslots : slots + 6 ≤ R.slots) (hlocks : meth.locks = false)
    (hx : ∀ t : State, s.vm.Alike t.vm → H.size ≤ t.heap.size → (∀ q : Nat, q < H.size → t.heap[q]? = H[q]?) → XC nse s t)
    (hf : ∀ z ∈ locs, free z.base) (hc : cells + 1 ≤ mc) (hs : slots + 6 ≤ ms) :
    W p l e R s m args below meth c H locs cells slots (vx_MQ below Qc XC args s mc ms free) (F0 m pc ls rest) := by
  intro T hT X
  have htr : e.platform.stackTraces = false := (show e.platform.stackTraces = l.stackTraces by rw [X.admits.platform]).trans hl
  have Y := vx_rebase X (R' := { frames := R.frames, locals := R.locals, cells := 1, slots := 6 }) (Nat.le_refl _) (Nat.le_refl _) hRcells hRslots
  obtain ⟨s', hA⟩ : ∃ z, z = (T.setVm s.vm).setFrames (.invoking m args :: below) := ⟨_, rfl⟩
  rw [← hA] at Y
  have hvm : s'.vm = s.vm := by rw [hA]; rfl
  have hhp : s'.heap = H := by rw [hA]; exact hT
  have hW0 : s.WarmedH s'.vm := by rw [hvm]; exact State.WarmedH.refl s
  have hat' : ∀ w ∈ nsB, w.before args s' = true := fun w hw => vx_ot_at hW0 hvm.symm (hgood w (List.mem_cons_of_mem _ (List.mem_cons_of_mem _ hw))) (hat w hw)
  have hk' : (Cond.classLink RX8 141 nse).before args s' = true := vx_ot_at hW0 hvm.symm (hgood _ List.mem_cons_self) hk
  have hini' : (Cond.initialized nse).before args s' = true := vx_ot_at hW0 hvm.symm (hgood _ (List.mem_cons_of_mem _ List.mem_cons_self)) hini
  have hU' : vx_Zq Bundle.tN "UNASSIGNED_STACK" Bundle.steD A s' s'.heap := by rw [hhp]; exact vx_Zq.moved hW0.alike (hU.kept hS.2.1)
  have hN' : vx_Zq Bundle.tN "SUPPRESSED_SENTINEL" Bundle.listD A s' s'.heap := by rw [hhp]; exact vx_Zq.moved hW0.alike (hN.kept hS.2.1)
  have h : ∀ w ∈ nsA, w.before args s' = true := vx_own hat' (vx_isRefq hU'.1) (vx_isRefq hN'.1) hU'.2.word hN'.2.word
  have hown' : s'.vm.findClass RX8 = some m.cls := by rw [hvm]; exact hown
  have hins : (Cond.instantiable nse 6).before args s' = true := h _ (by decide +kernel)
  obtain ⟨vm₁, cX, kX, hfX, hkX, -, -, X₁, st1⟩ := Y.newCold hexec (own := RX8) (C := nse) (index := 141) (n := 6) hown' hk' hins hini'
    (g := F0 m pc ls rest) rfl (by rw [hb]; exact d0) (Nat.le_refl _) (Nat.le_refl _)
  generalize hT1 : (T.setVm vm₁).pushCell { cls := cX, slots := kX.instanceTypes.map defaultValue, vm := .none } = T1 at X₁ st1
  have hcat : (Value.ref T.heap.size).category = 1 := rfl
  have hcellA : T1.heap[T.heap.size]? = some (freshCell cX kX) := by rw [← hT1]; exact State.heap_pushCell_size _ _
  have d3' : decode c.code (pc + 3) = .ok (.dup, 1) := by rw [hb]; exact d3
  have d4' : decode c.code (pc + 4) = .ok (.ldc is, 2) := by rw [hb]; exact d4
  have hstr' : vk_R RX8 is text sa s' := vk_R.warm hW0 hstr
  obtain ⟨U, hsteps, hrun, hend, hW, hsame, ce, hce, hO1, hO2⟩ := ns_ctor X₁ hexec htr hown' h (fun x hx => nomatch hx) hfX hkX hcellA (by rw [hhp, hT]; exact Nat.le_refl _) (msg := .ref sa) rfl
    (g := { method := m, pc := pc + 6, locals := ls, stack := .ref sa :: .ref T.heap.size :: .ref T.heap.size :: rest, locked := none }) rfl hsize rfl rfl (rest := rest) rfl
    (by rw [hb]; exact d6) (by rw [hb]; exact d9) hout hRframes (by simp only [List.map_cons, List.sum_cons, hcat]; omega) hlocks
  obtain ⟨f1, f2⟩ := vx_frame hsame
  rw [hhp] at f1 f2
  have hWs : s.WarmedH U.vm := State.WarmedH.trans hW0 hW
  have hcl : s.vm.findClass nse = some ce.cls := by
    have h9 := hO2
    rw [hvm] at h9
    exact h9
  have hall : s.sameButNew ({ U with vm := s.vm } : State) locs mc ms := by
    subst hA
    obtain ⟨e1, e2⟩ := hsame
    rw [State.setFrames_setFrames] at e1
    have h2 : (T.setVm s.vm).sameButNew ({ U with vm := s.vm } : State) [] (0 + 1) (0 + 6) := ⟨e1, e2⟩
    have h3 := X.same.trans h2
    rw [List.append_nil] at h3
    exact h3.mono hc hs
  refine ⟨U, ?_, .threw T.heap.size, hrun, hend, Or.inr ⟨T.heap.size, rfl, nse, ce, locs, hx U hWs.alike f1 (fun q hq => f2 q hq (fun z hz => nomatch hz)), hce, hO1, hcl, hWs, hall, hf⟩⟩
  refine st1 _ ?_
  show Steps p.tables e below (T1.setTop { method := m, pc := pc + 3, locals := ls, stack := .ref T.heap.size :: rest, locked := none }) _
  jvm_step X₁.here [X₁.here.top, hexec, d3', Value.category]
  exact X₁.ldcString hexec (own := RX8) (text := text) (index := is) (a := sa) hown' hstr'.1 hstr'.2
    (g := { method := m, pc := pc + 4, locals := ls, stack := .ref T.heap.size :: .ref T.heap.size :: rest, locked := none }) rfl d4' _ hsteps
theorem ns_throwSW {cc : ByteArray} {pc : Nat} (hexec : p.tables.exec = Jvm.exec) (hb : c.code = cc) (hl : l.stackTraces = false) {text : String} {is mc ms sa : Nat} {A : Nat → Prop}
    (hown : s.vm.findClass RX8 = some m.cls) 
    (hk : (Cond.classLink RX8 141 nse).before args s = true) (hini : (Cond.initialized nse).before args s = true) (hstr : vk_R RX8 is text sa s) (hat : ∀ w ∈ nsB, w.before args s = true)
    (hgood : ∀ w ∈ Cond.classLink RX8 141 nse :: Cond.initialized nse :: nsB, vx_ot w = true)
    (hU : vx_Zq Bundle.tN "UNASSIGNED_STACK" Bundle.steD A s s.heap) (hN : vx_Zq Bundle.tN "SUPPRESSED_SENTINEL" Bundle.listD A s s.heap) (hS : va_S A s.heap H locs) (hsize : ls.size = c.maxLocals)
    (d0 : decode cc pc = .ok (.new 141, 3)) (d3 : decode cc (pc + 3) = .ok (.dup, 1)) (d4 : decode cc (pc + 4) = .ok (.ldc_w is, 3)) (d7 : decode cc (pc + 7) = .ok (.invokespecial 145, 3)) (d10 : decode cc (pc + 10) = .ok (.athrow, 1))
    (hout : ∀ x ∈ c.exceptionTable.toList, covers x (pc + 10) = false)
    (hRframes : 2 + 3 < R.frames) (hRlocals : (rest.map fun v => v.category).sum + (13 * (2 + 1) + 43) ≤ R.locals) (hRcells : cells + 1 ≤ R.cells) (hRslots : slots + 6 ≤ R.slots) (hlocks : meth.locks = false)
    (hx : ∀ t : State, s.vm.Alike t.vm → H.size ≤ t.heap.size → (∀ q : Nat, q < H.size → t.heap[q]? = H[q]?) → XC nse s t)
    (hf : ∀ z ∈ locs, free z.base) (hc : cells + 1 ≤ mc) (hs : slots + 6 ≤ ms) :
    W p l e R s m args below meth c H locs cells slots (vx_MQ below Qc XC args s mc ms free) (F0 m pc ls rest) := by
  intro T hT X
  have htr : e.platform.stackTraces = false := (show e.platform.stackTraces = l.stackTraces by rw [X.admits.platform]).trans hl
  have Y := vx_rebase X (R' := { frames := R.frames, locals := R.locals, cells := 1, slots := 6 }) (Nat.le_refl _) (Nat.le_refl _) hRcells hRslots
  obtain ⟨s', hA⟩ : ∃ z, z = (T.setVm s.vm).setFrames (.invoking m args :: below) := ⟨_, rfl⟩
  rw [← hA] at Y
  have hvm : s'.vm = s.vm := by rw [hA]; rfl
  have hhp : s'.heap = H := by rw [hA]; exact hT
  have hW0 : s.WarmedH s'.vm := by rw [hvm]; exact State.WarmedH.refl s
  have hat' : ∀ w ∈ nsB, w.before args s' = true := fun w hw => vx_ot_at hW0 hvm.symm (hgood w (List.mem_cons_of_mem _ (List.mem_cons_of_mem _ hw))) (hat w hw)
  have hk' : (Cond.classLink RX8 141 nse).before args s' = true := vx_ot_at hW0 hvm.symm (hgood _ List.mem_cons_self) hk
  have hini' : (Cond.initialized nse).before args s' = true := vx_ot_at hW0 hvm.symm (hgood _ (List.mem_cons_of_mem _ List.mem_cons_self)) hini
  have hU' : vx_Zq Bundle.tN "UNASSIGNED_STACK" Bundle.steD A s' s'.heap := by rw [hhp]; exact vx_Zq.moved hW0.alike (hU.kept hS.2.1)
  have hN' : vx_Zq Bundle.tN "SUPPRESSED_SENTINEL" Bundle.listD A s' s'.heap := by rw [hhp]; exact vx_Zq.moved hW0.alike (hN.kept hS.2.1)
  have h : ∀ w ∈ nsA, w.before args s' = true := vx_own hat' (vx_isRefq hU'.1) (vx_isRefq hN'.1) hU'.2.word hN'.2.word
  have hown' : s'.vm.findClass RX8 = some m.cls := by rw [hvm]; exact hown
  have hins : (Cond.instantiable nse 6).before args s' = true := h _ (by decide +kernel)
  obtain ⟨vm₁, cX, kX, hfX, hkX, -, -, X₁, st1⟩ := Y.newCold hexec (own := RX8) (C := nse) (index := 141) (n := 6) hown' hk' hins hini'
    (g := F0 m pc ls rest) rfl (by rw [hb]; exact d0) (Nat.le_refl _) (Nat.le_refl _)
  generalize hT1 : (T.setVm vm₁).pushCell { cls := cX, slots := kX.instanceTypes.map defaultValue, vm := .none } = T1 at X₁ st1
  have hcat : (Value.ref T.heap.size).category = 1 := rfl
  have hcellA : T1.heap[T.heap.size]? = some (freshCell cX kX) := by rw [← hT1]; exact State.heap_pushCell_size _ _
  have d3' : decode c.code (pc + 3) = .ok (.dup, 1) := by rw [hb]; exact d3
  have d4' : decode c.code (pc + 4) = .ok (.ldc_w is, 3) := by rw [hb]; exact d4
  have hstr' : vk_R RX8 is text sa s' := vk_R.warm hW0 hstr
  obtain ⟨U, hsteps, hrun, hend, hW, hsame, ce, hce, hO1, hO2⟩ := ns_ctor X₁ hexec htr hown' h (fun x hx => nomatch hx) hfX hkX hcellA (by rw [hhp, hT]; exact Nat.le_refl _) (msg := .ref sa) rfl
    (g := { method := m, pc := pc + 7, locals := ls, stack := .ref sa :: .ref T.heap.size :: .ref T.heap.size :: rest, locked := none }) rfl hsize rfl rfl (rest := rest) rfl
    (by rw [hb]; exact d7) (by rw [hb]; exact d10) hout hRframes (by simp only [List.map_cons, List.sum_cons, hcat]; omega) hlocks
  obtain ⟨f1, f2⟩ := vx_frame hsame
  rw [hhp] at f1 f2
  have hWs : s.WarmedH U.vm := State.WarmedH.trans hW0 hW
  have hcl : s.vm.findClass nse = some ce.cls := by
    have h9 := hO2
    rw [hvm] at h9
    exact h9
  have hall : s.sameButNew ({ U with vm := s.vm } : State) locs mc ms := by
    subst hA
    obtain ⟨e1, e2⟩ := hsame
    rw [State.setFrames_setFrames] at e1
    have h2 : (T.setVm s.vm).sameButNew ({ U with vm := s.vm } : State) [] (0 + 1) (0 + 6) := ⟨e1, e2⟩
    have h3 := X.same.trans h2
    rw [List.append_nil] at h3
    exact h3.mono hc hs
  refine ⟨U, ?_, .threw T.heap.size, hrun, hend, Or.inr ⟨T.heap.size, rfl, nse, ce, locs, hx U hWs.alike f1 (fun q hq => f2 q hq (fun z hz => nomatch hz)), hce, hO1, hcl, hWs, hall, hf⟩⟩
  refine st1 _ ?_
  show Steps p.tables e below (T1.setTop { method := m, pc := pc + 3, locals := ls, stack := .ref T.heap.size :: rest, locked := none }) _
  jvm_step X₁.here [X₁.here.top, hexec, d3', Value.category]
  exact X₁.ldcStringW hexec (own := RX8) (text := text) (index := is) (a := sa) hown' hstr'.1 hstr'.2
    (g := { method := m, pc := pc + 4, locals := ls, stack := .ref T.heap.size :: .ref T.heap.size :: rest, locked := none }) rfl d4' _ hsteps
end Ends2
section Throw
variable {E : Ev} {Z : Zx} {cc : ByteArray} {ret : Option FieldType} {nL d : Nat} {S : List Sh} {σ : Sg} {pc : Nat} {lv : List (Nat × Value)}
theorem XcT.of {s t : State} {H : Heap} {locs : List Loc} (h1 : HR E S σ s H) (h2 : va_S (AE E) s.heap H locs) (hA : s.vm.Alike t.vm) (hz : H.size ≤ t.heap.size) (hk : ∀ q : Nat, q < H.size → t.heap[q]? = H[q]?) : XcT E S σ nse s t := by
  refine ⟨rfl, ?_, Nat.le_trans h2.1 hz, fun q q1 q2 => by rw [hk q (Nat.lt_of_lt_of_le q1 h2.1)]; exact h2.2.1 q q1 q2⟩
  obtain ⟨cA, tys, hK, hP, hT, hlen, hbs⟩ := h1
  exact ⟨cA, tys, va_K.moved hA hK, va_P.kept hP (fun k q hq => hk q.1 (vx_lt hP hq)), hT, hlen, Nat.le_trans hbs hz⟩
theorem r_throw (C : Ctx E Z RX8 cc ret nL d 1 6) (hl : E.1.stackTraces = false) (i : Nat) {q : Nat × String} (hq : oX[i]? = some q) (hd5 : 5 ≤ d) (hE : EnX E Z S σ)
    (d0 : decode cc pc = .ok (.new 141, 3)) (d3 : decode cc (pc + 3) = .ok (.dup, 1)) (d4 : decode cc (pc + 4) = .ok (.ldc q.1, 2)) (d6 : decode cc (pc + 6) = .ok (.invokespecial 145, 3)) (d9 : decode cc (pc + 9) = .ok (.athrow, 1)) : Wm E Z 0 0 S σ pc lv [] := by
  obtain ⟨⟨p, e, s, m, args, below, meth, c⟩, R, nL', Q⟩ := Z
  obtain ⟨hx, hb, hr, hlocks, hml, rfl, rfl, hown, hts, hO, hbase⟩ := C
  obtain ⟨rfl, htab⟩ := hE
  intro H locs ls h1 h2 h3
  exact ns_throwS (A := AE E) hx hb hl hown (hts _ (List.mem_filter.mpr ⟨ns_l, rfl⟩)) (hts _ (List.mem_filter.mpr ⟨ns_i, rfl⟩)) (hO.2.2.2.1 i q hq) (ns_hat hts hO) ns_g hO.2.1.2.2.2.1 hO.2.1.2.2.2.2 h2 (h3.1.trans hml.symm) d0 d3 d4 d6 d9 (fun x hx => (htab x hx).elim) (by show 2 + 3 < d + 1; omega) (by show 0 + (13 * 3 + 43) ≤ 64 * (d + 1); omega) (Nat.le_refl _) (Nat.le_refl _) hlocks (fun t a1 a2 a3 => XcT.of h1 h2 a1 a2 a3) (fun z hz => h2.2.2 z hz) (Nat.le_refl _) (Nat.le_refl _)
theorem r_throwW (C : Ctx E Z RX8 cc ret nL d 1 6) (hl : E.1.stackTraces = false) (i : Nat) {q : Nat × String} (hq : oX[i]? = some q) (hd5 : 5 ≤ d) (hE : EnX E Z S σ)
    (d0 : decode cc pc = .ok (.new 141, 3)) (d3 : decode cc (pc + 3) = .ok (.dup, 1)) (d4 : decode cc (pc + 4) = .ok (.ldc_w q.1, 3)) (d6 : decode cc (pc + 7) = .ok (.invokespecial 145, 3)) (d9 : decode cc (pc + 10) = .ok (.athrow, 1)) : Wm E Z 0 0 S σ pc lv [] := by
  obtain ⟨⟨p, e, s, m, args, below, meth, c⟩, R, nL', Q⟩ := Z
  obtain ⟨hx, hb, hr, hlocks, hml, rfl, rfl, hown, hts, hO, hbase⟩ := C
  obtain ⟨rfl, htab⟩ := hE
  intro H locs ls h1 h2 h3
  exact ns_throwSW (A := AE E) hx hb hl hown (hts _ (List.mem_filter.mpr ⟨ns_l, rfl⟩)) (hts _ (List.mem_filter.mpr ⟨ns_i, rfl⟩)) (hO.2.2.2.1 i q hq) (ns_hat hts hO) ns_g hO.2.1.2.2.2.1 hO.2.1.2.2.2.2 h2 (h3.1.trans hml.symm) d0 d3 d4 d6 d9 (fun x hx => (htab x hx).elim) (by show 2 + 3 < d + 1; omega) (by show 0 + (13 * 3 + 43) ≤ 64 * (d + 1); omega) (Nat.le_refl _) (Nat.le_refl _) hlocks (fun t a1 a2 a3 => XcT.of h1 h2 a1 a2 a3) (fun z hz => h2.2.2 z hz) (Nat.le_refl _) (Nat.le_refl _)
end Throw
theorem X8_thing_x {E : Ev} (hl : E.1.stackTraces = false) (N : Nat) {a w : Int32} {σ : Sg} (h : X0_isThing N a σ = some 0 ∨ ∃ r, X0_isThing N a σ = some r ∧ r ≠ 0 ∧ (w < 0 ∨ nI 7 < w)) : Xm E 7 yX8_thing cX8_thing 3 (some .int) [.ref 0, .int a, .int w] SH0 σ := by
  refine Xm.intro (by decide +kernel) (Nat.le_of_ble_eq_true rfl) (fun Z C hE => ?_)
  show Wm E Z 0 0 SH0 σ 0 [(0, .ref 0), (1, .int a), (2, .int w)] []
  have go : ∀ r1, X0_isThing N a σ = some r1 → ((r1 = 0) ∨ (r1 ≠ 0 ∧ (w < 0 ∨ nI 7 < w))) → Wm E Z 0 0 SH0 σ 0 [(0, .ref 0), (1, .int a), (2, .int w)] [] := by
    intro r1 e2 hc
    refine r_aload_n (pc' := 1) C dX8_thing_0 rfl 0 rfl ?_
    refine r_getR (pc' := 4) C flX8_26 sh_0 rfl dX8_thing_1 rfl ?_
    refine r_iload_n (pc' := 5) C dX8_thing_4 rfl 1 rfl ?_
    refine r_cV1 (pc' := 8) C (X0_isThing_ok  e2) mlX8_138 ceX0_isThing cvX0_isThing sh_5 rfl rfl rfl (Nat.le_of_ble_eq_true rfl) rfl (Nat.le_of_ble_eq_true rfl) dX8_thing_5 rfl (kk := ?_)
    refine r_if_ne (tgt := 21) (pc' := 11) C dX8_thing_8 rfl rfl (fun c3 => ?_) (fun c3 => ?_)
    · have hw := (hc.resolve_left c3).2
      refine r_iload_n (pc' := 22) C dX8_thing_21 rfl 2 rfl ?_
      refine r_tabOut (tgt := 187) C dX8_thing_22 ?_ rfl ?_
      · rcases hw with hw | hw
        · exact Or.inl (by have := Int32.lt_iff_toInt_lt.mp hw; exact this)
        · exact Or.inr (by have := Int32.lt_iff_toInt_lt.mp hw; exact this)
      · exact r_throw C hl 1 rfl (Nat.le_of_ble_eq_true rfl) hE dX8_thing_187 dX8_thing_190 dX8_thing_191 dX8_thing_193 dX8_thing_196
    · exact r_throw C hl 0 rfl (Nat.le_of_ble_eq_true rfl) hE dX8_thing_11 dX8_thing_14 dX8_thing_15 dX8_thing_17 dX8_thing_20
  rcases h with h | ⟨r, h1, h2, h3⟩
  · exact go 0 h (Or.inl rfl)
  · exact go r h1 (Or.inr ⟨h2, h3⟩)
theorem X8_row_x {E : Ev} (hl : E.1.stackTraces = false) {v : Int32} {σ : Sg} (h : v < 0 ∨ gi σ 3 1 ≤ v) : Xm E 7 yX8_row cX8_row 2 (some .long) [.ref 0, .int v] SH0 σ := by
  refine Xm.intro (by decide +kernel) (Nat.le_of_ble_eq_true rfl) (fun Z C hE => ?_)
  show Wm E Z 0 0 SH0 σ 0 [(0, .ref 0), (1, .int v)] []
  refine r_iload_n (pc' := 1) C dX8_row_0 rfl 1 rfl ?_
  refine r_if_lt (tgt := 21) (pc' := 4) C dX8_row_1 rfl rfl (fun c1 => ?_) (fun c1 => ?_)
  · exact r_throwW C hl 2 rfl (Nat.le_of_ble_eq_true rfl) hE dX8_row_21 dX8_row_24 dX8_row_25 dX8_row_28 dX8_row_31
  · refine r_iload_n (pc' := 5) C dX8_row_4 rfl 1 rfl ?_
    refine r_aload_n (pc' := 6) C dX8_row_5 rfl 0 rfl ?_
    refine r_getR (pc' := 9) C flX8_19 sh_0 rfl dX8_row_6 rfl ?_
    refine r_getI (pc' := 12) C flX8_414 sh_3 rfl dX8_row_9 rfl ?_
    refine r_icmp_ge (tgt := 21) (pc' := 15) C dX8_row_12 rfl rfl (fun c2 => ?_) (fun c2 => ?_)
    · exact r_throwW C hl 2 rfl (Nat.le_of_ble_eq_true rfl) hE dX8_row_21 dX8_row_24 dX8_row_25 dX8_row_28 dX8_row_31
    · exact absurd (h.resolve_left c1) c2
