/-! ===== throws of thing and row, and their catching ===== -/
def nse : String := "java/util/NoSuchElementException"
def nsN : List String := ["java/lang/RuntimeException", "java/lang/Exception"]
def XcT (E : Ev) (S : List Sh) (σ : Sg) : String → State → State → Prop := fun X st t => X = nse ∧ HR E S σ t t.heap ∧ va_F (AE E) st t
def QcF : Array Value → State → Outcome → State → Prop := fun _ _ _ _ => False
/-- a method that throws -/
def Xm (E : Ev) (d : Nat) (y : MethodName) (cc : ByteArray) (nL : Nat) (ret : Option FieldType) (av : List Value) (S : List Sh) (σ : Sg) : Prop :=
  vx_Met E.1 y (Cond.code y cc nL ret :: lw_good) (rmD d 1 6) (fun a U => a = (av.map (tr E)).toArray ∧ HR E S σ U U.heap ∧ OL E U U.heap) QcF (XcT E S σ) 1 6 (AE E)
def EnX (E : Ev) (Z : Zx) (S : List Sh) (σ : Sg) : Prop :=
  match Z with
  | ((_, _, s, _, args, below, _, c), _, _, Q) => Q = vx_MQ below QcF (XcT E S σ) args s 1 6 (AE E) ∧ ∀ x ∈ c.exceptionTable.toList, False
theorem Xm.intro {E : Ev} {d : Nat} {y : MethodName} {cc : ByteArray} {nL : Nat} {ret : Option FieldType} {av : List Value} {S : List Sh} {σ : Sg} (hy : plainName y.cls = true) (hn : (lg_sl av).length ≤ nL) (h : ∀ Z : Zx, Ctx E Z y.cls cc ret nL d 1 6 → EnX E Z S σ → Wm E Z 0 0 S σ 0 (lv_args 0 av) []) : Xm E d y cc nL ret av S σ := by
  refine vx_ofW (cc := cc) (maxL := nL) (ret := ret) hy rfl ?_
  intro p e s m args below meth c s₁ B hml htab hv
  obtain ⟨rfl, hH, hO⟩ := hv
  have hts := atoms_spec (ws := Cond.code y cc nL ret :: lw_good) B.pre
  have hown : s.vm.findClass y.cls = some m.cls := findClass_of_methodNamed B.named
  have hb0 : E.2.2.2 ≤ s.heap.size := by obtain ⟨_, _, _, _, _, _, h⟩ := hH; exact h
  have k := h ((p, e, s, m, (av.map (tr E)).toArray, below, meth, c), rmD d 1 6, nL, vx_MQ below QcF (XcT E S σ) (av.map (tr E)).toArray s 1 6 (AE E)) ⟨B.exec, B.bytes, B.returns, B.notSynchronized, hml, rfl, rfl, hown, fun w hw => hts w (List.mem_cons_of_mem _ hw), hO, hb0⟩ ⟨rfl, htab⟩
  rw [lg_entry_eq]
  refine k s.heap [] _ hH va_S.rf ?_
  rw [← lv_args_tr]
  exact lv_entry (av.map (tr E)) (by rw [lg_sl_tr]; exact hn)
/-- the words of 'throw new NoSuchElementException(text)': its constructor calls its parent's by the entry 13 -/
def nsA : List Cond := Bundle.throwableAtoms ++ Bundle.throwableSAtoms ++ (Bundle.passSAtoms nse "java/lang/RuntimeException" 13 prog_25_method_4_code ++ Bundle.chainSAtoms "java/lang/RuntimeException" ["java/lang/Exception"]) ++
  [.methodLink RX8 145 (Bundle.initS nse), .instantiable nse 6, .castable nse nse, .selects nse Bundle.tFill0 Bundle.tFill0, .selects nse Bundle.tFill Bundle.tFill,
   .lays nse Bundle.tN "cause" "Ljava/lang/Throwable;", .lays nse Bundle.tN "stackTrace" Bundle.steD, .lays nse Bundle.tN "suppressedExceptions" Bundle.listD, .lays nse Bundle.tN "detailMessage" "Ljava/lang/String;",
   .isRef (.static Bundle.tN "UNASSIGNED_STACK" Bundle.steD), .isRef (.static Bundle.tN "SUPPRESSED_SENTINEL" Bundle.listD),
   .fieldLink Bundle.tN 198 Bundle.tN "backtrace" "Ljava/lang/Object;", .lays Bundle.tN Bundle.tN "backtrace" "Ljava/lang/Object;", .lays nse Bundle.tN "backtrace" "Ljava/lang/Object;"]
def nsB : List Cond := nsA.filter vx_no
theorem ns_in : ∀ w ∈ nsB, w ∈ lw_tbl := by decide +kernel
theorem ns_b : ∀ w ∈ nsB, goodWord w = true ∨ nwB w = true := by decide +kernel
theorem ns_l : Cond.classLink RX8 141 nse ∈ lw_tbl := by decide +kernel
theorem ns_i : Cond.initialized nse ∈ lw_tbl := by decide +kernel
theorem ns_g : ∀ w ∈ Cond.classLink RX8 141 nse :: Cond.initialized nse :: nsB, vx_ot w = true := by decide +kernel
theorem ns_hat {E : Ev} {s : State} {args : Array Value} (hts : ∀ w ∈ lw_good, w.before args s = true) (hO : OL E s s.heap) : ∀ w ∈ nsB, w.before args s = true := by
  intro w hw
  rcases ns_b w hw with h | h
  · exact hts w (List.mem_filter.mpr ⟨ns_in w hw, h⟩)
  · exact va_Nw.use (nw_tab h) (hO.2.2.2.2 w (List.mem_filter.mpr ⟨ns_in w hw, h⟩))
/-! the words by their places in nsA: 0-23 Throwable, 24-27 its constructor with a text, 28-32 the exception's own, 33-42 its parents', 43-56 the rest -/
theorem ns_get (k : Nat) {w : Cond} (e : nsA[k]? = some w) : w ∈ nsA := List.mem_of_getElem? e
theorem ns_take (k n : Nat) {q : List Cond} (e : (nsA.drop k).take n = q) {w : Cond} (hw : w ∈ q) : w ∈ nsA := by
  subst e
  exact List.mem_of_mem_drop (List.mem_of_mem_take hw)
/-- a slot that another slot's write leaves -/
theorem ns_slot {x : Cell} {i j : Nat} {v w : Value} (hj : j ≠ i) (hw : x.slots[i]? = some w) : (x.setSlot j v).slots[i]? = some w :=
  (Array.getElem?_setIfInBounds_ne hj).trans hw
section Laid
variable {s : State} {args : Array Value} {cX : ClassId} {kX : Class}
/-- field f as the exception's class lays it: its type there, and who declares its slot -/
def NsL (s : State) (cX : ClassId) (kX : Class) (f : Field) : Prop :=
  kX.instanceTypes[f.slot]? = some f.type ∧ ∃ d : Class × Field, Jmm.declares? s.vm f.slot (cX + 1) cX = some d ∧ d.2.name = f.name
theorem NsL.ne {f f' : Field} {n n' : String} (h : NsL s cX kX f) (h' : NsL s cX kX f') (hn : f.name = n) (hn' : f'.name = n') (hd : n ≠ n') : f.slot ≠ f'.slot := by
  obtain ⟨-, d, q1, q2⟩ := h
  obtain ⟨-, d', q3, q4⟩ := h'
  exact Cond.laysApart q1 q3 q2 q4 (by rw [hn, hn']; exact hd)
theorem ns_sel {l : Launch} {e : Env} (ha : l.admits e) (hc : s.vm.findClass nse = some cX) {y : MethodName} {t : MethodId} (hy : y.cls = "java/lang/Throwable") (hn : s.methodNamed? y = some t)
    (hw : (Cond.selects nse y y).before args s = true) : selectMethod e.platform s.vm cX t = .method t := by
  obtain ⟨c1, t1, t2, q1, q2, q3, q4, -⟩ := Cond.selects_spec hw
  have r1 : c1 = cX := Option.some.inj (q1.symm.trans hc)
  have r2 : t2 = t := Option.some.inj (q3.symm.trans hn)
  have r3 : t1 = t := Option.some.inj (q2.symm.trans (State.methodFound?_of_named hn (by rw [hy]; decide)))
  rw [r1, r2, r3] at q4
  exact (Launch.admits_selectMethod ha ..).trans q4
end Laid
section Thrown
variable {p : Program} {l : Launch} {e : Env} {R : Room} {s : State} {m₀ : MethodId} {args : Array Value} {below : List Frame} {meth : Method} {c : Code} {W : State} {cells slots : Nat}
/-- a cell of statics, while nothing old is written -/
theorem ns_kept (X : Stand p l e R s m₀ args below meth c W [] cells slots) {b : Addr} {z : Cell} (hz : s.heap[b]? = some z) (hs : z.vm.isStatics = true) :
    ∃ y : Cell, W.heap[b]? = some y ∧ y.vm ≠ .unknown ∧ ∀ i : Nat, y.slots[i]? = z.slots[i]? := by
  obtain ⟨-, -, -, -, -, q⟩ := X.same
  obtain ⟨y, q1, q2, -, q3⟩ := q b z hz
  have q4 : y.vm = z.vm := by rw [q2]
  refine ⟨y, q1, fun hu => ?_, fun i => q3 i (fun hi => nomatch hi)⟩
  rw [← q4, hu] at hs
  exact Bool.noConfusion hs
/-- the constructor, from its call to the instruction behind it: only the new cell is written -/
theorem ns_run (X : Stand p l e R s m₀ args below meth c W [] cells slots) (hx : p.tables.exec = Jvm.exec) (ht : e.platform.stackTraces = false) (ho : s.vm.findClass RX8 = some m₀.cls) (h : ∀ w ∈ nsA, w.before args s = true)
    {a : Addr} {cX : ClassId} {kX : Class} (hc : s.vm.findClass nse = some cX) (hk : s.vm.classes[cX]? = some kX) (ha : W.heap[a]? = some (freshCell cX kX)) (hn : s.heap.size ≤ a) {v : Value} (hv : v.isRef = true)
    {g : JFrame} (hg : g.method = m₀) (hs : g.locals.size = c.maxLocals) {r : List Value} (hr : g.stack = v :: .ref a :: .ref a :: r) (hd : decode c.code g.pc = .ok (.invokespecial 145, 3))
    (hf : 5 < R.frames) (hl : 2 * g.monitorRoom + ((Value.ref a :: r).map fun v => v.category).sum + 81 ≤ R.locals) :
    ∃ (U : State) (x : Cell) (ls : List Loc), Stand p l e R s m₀ args below meth c U ls cells slots ∧ (∀ y ∈ ls, y.base = a) ∧ U.heap[a]? = some x ∧ x.vm = .none ∧ x.cls = cX ∧
      ∀ t, Steps p.tables e below (U.setTop { g with stack := .ref a :: r, pc := g.pc + 3 }) t → Steps p.tables e below (W.setTop g) t := by
  have hm : e.platform.magicAccessors = ({} : Platform).magicAccessors := by rw [X.admits.platform]
  -- Throwable, its constructor, and the three that pass the text on
  obtain ⟨T, Z₀, LT, -, Y⟩ := ThrowableC.of_atoms (args := args) (pl := e.platform) (by rw [X.admits.platform]) (by rw [X.admits.platform]) hm (fun w hw => h w (ns_take 0 24 rfl hw))
  obtain ⟨Z, M, LZ, LM, z1⟩ := Init0T.ofS_atoms (args := args) hm LT Y (fun w hw => h w (ns_take 24 4 rfl hw))
  obtain ⟨A, LA, a1, a2⟩ := PassC.ofS_atoms (args := args) hm (X := nse) (Y := "java/lang/RuntimeException") (index := 13) (bytes := prog_25_method_4_code) (by decide +kernel) (by decide) (by decide +kernel) (by decide +kernel) (by decide +kernel) (by decide +kernel) (fun w hw => h w (ns_take 28 5 rfl hw))
  obtain ⟨B, LB, b1, b2⟩ := PassC.ofS_atoms (args := args) hm (X := "java/lang/RuntimeException") (Y := "java/lang/Exception") (index := 7) (bytes := Bundle.six) (by decide +kernel) (by decide) (by decide +kernel) (by decide +kernel) (by decide +kernel) (by decide +kernel) (fun w hw => h w (ns_take 33 5 rfl hw))
  obtain ⟨D, LD, d1, d2⟩ := PassC.ofS_atoms (args := args) hm (X := "java/lang/Exception") (Y := "java/lang/Throwable") (index := 7) (bytes := Bundle.six) (by decide +kernel) (by decide) (by decide +kernel) (by decide +kernel) (by decide +kernel) (by decide +kernel) (fun w hw => h w (ns_take 38 5 rfl hw))
  have hAB : A.sup = B.m := Option.some.inj (a2.symm.trans b1)
  have hBD : B.sup = D.m := Option.some.inj (b2.symm.trans d1)
  have hDZ : D.sup = Z.m T.toThrowableT := Option.some.inj (d2.symm.trans z1)
  -- the statics that it reads
  obtain ⟨z, hz, hi⟩ := Y.statics
  obtain ⟨u, hu⟩ := Cond.staticRefV Y.unassigned LT.unassignedStatic LT.statics hz hi (h _ (ns_get 52 rfl))
  obtain ⟨n, hN⟩ := Cond.staticRefV Y.sentinel LT.sentinelStatic LT.statics hz hi (h _ (ns_get 53 rfl))
  obtain ⟨y, hy, hyu, hyz⟩ := ns_kept X hz hi
  have hne : T.aS ≠ a := by rintro rfl; exact absurd (Array.getElem?_eq_some_iff.mp hz).1 (Nat.not_lt.mpr hn)
  -- the fields of the new cell
  have hord : kX.kind = .ordinary := by
    obtain ⟨c1, k1, i1, i2, i3, -⟩ := Cond.instantiable_spec (h _ (ns_get 44 rfl))
    have j1 : c1 = cX := Option.some.inj (i1.symm.trans hc)
    rw [j1] at i2
    rw [Option.some.inj (hk.symm.trans i2)]
    exact i3
  obtain ⟨ci, ib, fb, k1, k2, k3, k4, -, k5, k6, k7⟩ := Cond.ownField (t := .object "java/lang/Object") Y.found LT.cls (by decide +kernel) (h _ (ns_get 54 rfl)) (h _ (ns_get 55 rfl)) e.platform hm
  obtain ⟨im, hmF⟩ := Y.msg
  have fC : NsL s cX kX T.fCause := Cond.laysAt hc hk Y.cause (h _ (ns_get 48 rfl))
  have fS : NsL s cX kX T.fStack := Cond.laysAt hc hk Y.stack (h _ (ns_get 49 rfl))
  have fP : NsL s cX kX T.fSupp := Cond.laysAt hc hk Y.supp (h _ (ns_get 50 rfl))
  have fM : NsL s cX kX T.fMsg := Cond.laysAt hc hk hmF (h _ (ns_get 51 rfl))
  have fB : NsL s cX kX fb := Cond.laysAt hc hk k7 (h _ (ns_get 56 rfl))
  have hnull : (freshCell cX kX).slots[fb.slot]? = some .null := (fresh_default fB.1).trans (by rw [k6]; rfl)
  have hback : SkipFacts T e.platform s (fun q => q) u ((preparedCellV T.toThrowableT (freshCell cX kX) a u n).withEntry W.cur) :=
    ⟨⟨ci, ib, fb⟩, ⟨k1, k2, k3, k4⟩, ns_slot (fP.ne fB Y.suppName k5 (by decide)) (ns_slot (fS.ne fB Y.stackName k5 (by decide)) (ns_slot (fC.ne fB Y.causeName k5 (by decide)) hnull)), fun _ _ => rfl⟩
  -- the call, and what it runs
  obtain ⟨tm, -, -, -, vm1, o1, -, -, -, -, -, -, -, o2, o3⟩ := Steps.initColdS (tb := p.tables) (e := e) (below := below) (args := args) X.here hx X.warmed hm ho (t := Bundle.initS nse) rfl rfl (by decide) (h _ (ns_get 43 rfl)) (h _ (ns_get 28 rfl)) (h _ (ns_get 29 rfl)) hg hr hd
  cases Option.some.inj (o1.symm.trans a1)
  obtain ⟨vm2, X2, o4⟩ := (X.noted o2).ctorMessageOffV hx (g := { g with stack := .ref a :: r }) hg hs T LT Z LZ M LM [A, B, D]
    (fun P hP => by simp only [List.mem_cons, List.not_mem_nil, or_false] at hP; rcases hP with rfl | rfl | rfl <;> assumption) ⟨hAB, hBD, hDZ, trivial⟩ hv ha (fun _ q => by cases q) (fun q => by cases q) rfl rfl
    (ns_sel X.admits hc rfl Y.fill0 (h _ (ns_get 46 rfl))) (ns_sel X.admits hc rfl Y.fill (h _ (ns_get 47 rfl))) hy hne hyu ((hyz _).trans hu) ((hyz _).trans hN)
    (Takes.of_laid hk hord fC.1 (by rw [Y.causeType]; rfl)) (Takes.of_laid hk hord fS.1 (by rw [Y.stackType]; exact fits_refV_array _ u)) (Takes.of_laid hk hord fP.1 (by rw [Y.suppType]; exact fits_refV_object _ n)) (Takes.of_laid hk hord fM.1 (by rw [Y.msgType]; exact fits_refV_object _ ⟨v, hv⟩))
    Y.objLocals hback ht [] hd hf hl
  refine ⟨_, _, _, X2, by simp, heapAt_setCell_self _ (Array.getElem?_eq_some_iff.mp ha).1, rfl, rfl, fun t q => o3 t (fun acts => ?_)⟩
  rw [doInvoke_state]
  exact o4 t q
/-- and then the throw -/
theorem ns_ctor (X : Stand p l e R s m₀ args below meth c W [] cells slots) (hx : p.tables.exec = Jvm.exec) (ht : e.platform.stackTraces = false) (ho : s.vm.findClass RX8 = some m₀.cls) (h : ∀ w ∈ nsA, w.before args s = true)
    {a : Addr} {cX : ClassId} {kX : Class} (hc : s.vm.findClass nse = some cX) (hk : s.vm.classes[cX]? = some kX) (ha : W.heap[a]? = some (freshCell cX kX)) (hn : s.heap.size ≤ a) {v : Value} (hv : v.isRef = true)
    {g : JFrame} (hg : g.method = m₀) (hs : g.locals.size = c.maxLocals) (hg1 : g.locked = none) (hg2 : g.entered = []) {r : List Value} (hr : g.stack = v :: .ref a :: .ref a :: r) (hd : decode c.code g.pc = .ok (.invokespecial 145, 3))
    (hd' : decode c.code (g.pc + 3) = .ok (.athrow, 1)) (hout : ∀ x ∈ c.exceptionTable.toList, covers x (g.pc + 3) = false) (hf : 5 < R.frames) (hl : 2 * g.monitorRoom + ((Value.ref a :: r).map fun v => v.category).sum + 81 ≤ R.locals) (hlk : meth.locks = false) :
    ∃ U : State, Steps p.tables e below (W.setTop g) U ∧ U.status = .running ∧ Ended U below (.threw a) ∧ s.WarmedH U.vm ∧ s.sameButNew ({ U with vm := s.vm } : State) [] cells slots ∧
      ∃ x : Cell, U.heap[a]? = some x ∧ x.vm = .none ∧ s.vm.findClass nse = some x.cls := by
  obtain ⟨U, x, ls, XU, q1, q2, q3, q4, q5⟩ := ns_run X hx ht ho h hc hk ha hn hv hg hs hr hd hf hl
  obtain ⟨o1, o2, o3, o4, o5⟩ := XU.athrowLeaves hx (g := { g with stack := .ref a :: r, pc := g.pc + 3 }) hg hg1 hg2 hout rfl hd' hlk
  exact ⟨_, q5 _ o1, o2, o3, o4, o5.weaken (fun y hy hlt => absurd hlt (by rw [q1 y hy]; exact Nat.not_lt.mpr hn)) (Nat.le_refl _) (Nat.le_refl _), x, q2, q3, by rw [q4]; exact hc⟩
end Thrown
section Ends2
variable {p : Program} {l : Launch} {e : Env} {R : Room} {s : State} {m : MethodId} {args : Array Value} {below : List Frame} {meth : Method} {c : Code} {H : Heap} {locs : List Loc} {cells slots : Nat} {Q : State → Prop}
variable {mc ms : Nat} {free : Addr → Prop} {A0 A1 : Nat → Prop} {H0 : Heap} {a : Array Value} {ls : Array Slot} {st0 rest : List Value}
variable {Qc : Array Value → State → Outcome → State → Prop} {XC : String → State → State → Prop}
theorem ns_throwS {cc : ByteArray} {pc : Nat} (hexec : p.tables.exec = Jvm.exec) (hb : c.code = cc) (hl : l.stackTraces = false) {text : String} {is mc ms sa : Nat} {A : Nat → Prop}
    (hown : s.vm.findClass RX8 = some m.cls) 
    (hk : (Cond.classLink RX8 141 nse).before args s = true) (hini : (Cond.initialized nse).before args s = true) (hstr : vk_R RX8 is text sa s) (hat : ∀ w ∈ nsB, w.before args s = true)
    (hgood : ∀ w ∈ Cond.classLink RX8 141 nse :: Cond.initialized nse :: nsB, vx_ot w = true)
    (hU : vx_Zq Bundle.tN "UNASSIGNED_STACK" Bundle.steD A s s.heap) (hN : vx_Zq Bundle.tN "SUPPRESSED_SENTINEL" Bundle.listD A s s.heap) (hS : va_S A s.heap H locs) (hsize : ls.size = c.maxLocals)
    (d0 : decode cc pc = .ok (.new 141, 3)) (d3 : decode cc (pc + 3) = .ok (.dup, 1)) (d4 : decode cc (pc + 4) = .ok (.ldc is, 2)) (d6 : decode cc (pc + 6) = .ok (.invokespecial 145, 3)) (d9 : decode cc (pc + 9) = .ok (.athrow, 1))
    (hout : ∀ x ∈ c.exceptionTable.toList, covers x (pc + 9) = false)
    (hRframes : 2 + 3 < R.frames) (hRlocals : (rest.map fun v => v.category).sum + (13 * (2 + 1) + 43) ≤ R.locals) (hRcells : cells + 1 ≤ R.cells) (hRslots : slots + 6 ≤ R.slots) (hlocks : meth.locks = false)
    (hx : ∀ t : State, s.vm.Alike t.vm → H.size ≤ t.heap.size → (∀ q : Nat, q < H.size → t.heap[q]? = H[q]?) → XC nse s t)
    (hf : ∀ z ∈ locs, free z.base) (hc : cells + 1 ≤ mc) (hs : slots + 6 ≤ ms) :
    W p l e R s m args below meth c H locs cells slots (vx_MQ below Qc XC args s mc ms free) (F0 m pc ls rest) := by
  intro T hT X
  have htr : e.platform.stackTraces = false := (show e.platform.stackTraces = l.stackTraces by rw [X.admits.platform]).trans hl
  have Y := vx_rebase X (R' := { frames := R.frames, locals := R.locals, cells := 1, slots := 6 }) (Nat.le_refl _) (Nat.le_refl _) hRcells hRslots
  obtain ⟨s', hA⟩ : ∃ z, z = (T.setVm s.vm).setFrames (.invoking m args :: below) := ⟨_, rfl⟩
  rw [← hA] at Y
  have hvm : s'.vm = s.vm := by rw [hA]; rfl
  have hhp : s'.heap = H := by rw [hA]; exact hT
  have hW0 : s.WarmedH s'.vm := by rw [hvm]; exact State.WarmedH.refl s
  have hat' : ∀ w ∈ nsB, w.before args s' = true := fun w hw => vx_ot_at hW0 hvm.symm (hgood w (List.mem_cons_of_mem _ (List.mem_cons_of_mem _ hw))) (hat w hw)
  have hk' : (Cond.classLink RX8 141 nse).before args s' = true := vx_ot_at hW0 hvm.symm (hgood _ List.mem_cons_self) hk
  have hini' : (Cond.initialized nse).before args s' = true := vx_ot_at hW0 hvm.symm (hgood _ (List.mem_cons_of_mem _ List.mem_cons_self)) hini
  have hU' : vx_Zq Bundle.tN "UNASSIGNED_STACK" Bundle.steD A s' s'.heap := by rw [hhp]; exact vx_Zq.moved hW0.alike (hU.kept hS.2.1)
  have hN' : vx_Zq Bundle.tN "SUPPRESSED_SENTINEL" Bundle.listD A s' s'.heap := by rw [hhp]; exact vx_Zq.moved hW0.alike (hN.kept hS.2.1)
  have h : ∀ w ∈ nsA, w.before args s' = true := vx_own hat' (vx_isRefq hU'.1) (vx_isRefq hN'.1) hU'.2.word hN'.2.word
  have hown' : s'.vm.findClass RX8 = some m.cls := by rw [hvm]; exact hown
  have hins : (Cond.instantiable nse 6).before args s' = true := h _ (by decide +kernel)
  obtain ⟨vm₁, cX, kX, hfX, hkX, -, -, X₁, st1⟩ := Y.newCold hexec (own := RX8) (C := nse) (index := 141) (n := 6) hown' hk' hins hini'
    (g := F0 m pc ls rest) rfl (by rw [hb]; exact d0) (Nat.le_refl _) (Nat.le_refl _)
  generalize hT1 : (T.setVm vm₁).pushCell { cls := cX, slots := kX.instanceTypes.map defaultValue, vm := .none } = T1 at X₁ st1
  have hcat : (Value.ref T.heap.size).category = 1 := rfl
  have hcellA : T1.heap[T.heap.size]? = some (freshCell cX kX) := by rw [← hT1]; exact State.heap_pushCell_size _ _
  have d3' : decode c.code (pc + 3) = .ok (.dup, 1) := by rw [hb]; exact d3
  have d4' : decode c.code (pc + 4) = .ok (.ldc is, 2) := by rw [hb]; exact d4
  have hstr' : vk_R RX8 is text sa s' := vk_R.warm hW0 hstr
  obtain ⟨U, hsteps, hrun, hend, hW, hsame, ce, hce, hO1, hO2⟩ := ns_ctor X₁ hexec htr hown' h hfX hkX hcellA (by rw [hhp, hT]; exact Nat.le_refl _) (v := .ref sa) rfl
    (g := { method := m, pc := pc + 6, locals := ls, stack := .ref sa :: .ref T.heap.size :: .ref T.heap.size :: rest, locked := none }) rfl hsize rfl rfl (r := rest) rfl
    (by rw [hb]; exact d6) (by rw [hb]; exact d9) hout hRframes (by simp only [List.map_cons, List.sum_cons, hcat]; omega) hlocks
  obtain ⟨f1, f2⟩ := vx_frame hsame
  rw [hhp] at f1 f2
  have hWs : s.WarmedH U.vm := State.WarmedH.trans hW0 hW
  have hcl : s.vm.findClass nse = some ce.cls := by
    have h9 := hO2
    rw [hvm] at h9
    exact h9
  have hall : s.sameButNew ({ U with vm := s.vm } : State) locs mc ms := by
    subst hA
    obtain ⟨e1, e2⟩ := hsame
    rw [State.setFrames_setFrames] at e1
    have h2 : (T.setVm s.vm).sameButNew ({ U with vm := s.vm } : State) [] (0 + 1) (0 + 6) := ⟨e1, e2⟩
    have h3 := X.same.trans h2
    rw [List.append_nil] at h3
    exact h3.mono hc hs
  refine ⟨U, ?_, .threw T.heap.size, hrun, hend, Or.inr ⟨T.heap.size, rfl, nse, ce, locs, hx U hWs.alike f1 (fun q hq => f2 q hq (fun z hz => nomatch hz)), hce, hO1, hcl, hWs, hall, hf⟩⟩
  refine st1 _ ?_
  show Steps p.tables e below (T1.setTop { method := m, pc := pc + 3, locals := ls, stack := .ref T.heap.size :: rest, locked := none }) _
  jvm_step X₁.here [X₁.here.top, hexec, d3', Value.category]
  exact X₁.ldcString hexec (own := RX8) (text := text) (index := is) (a := sa) hown' hstr'.1 hstr'.2
    (g := { method := m, pc := pc + 4, locals := ls, stack := .ref T.heap.size :: .ref T.heap.size :: rest, locked := none }) rfl d4' _ hsteps
theorem ns_throwSW {cc : ByteArray} {pc : Nat} (hexec : p.tables.exec = Jvm.exec) (hb : c.code = cc) (hl : l.stackTraces = false) {text : String} {is mc ms sa : Nat} {A : Nat → Prop}
    (hown : s.vm.findClass RX8 = some m.cls) 
    (hk : (Cond.classLink RX8 141 nse).before args s = true) (hini : (Cond.initialized nse).before args s = true) (hstr : vk_R RX8 is text sa s) (hat : ∀ w ∈ nsB, w.before args s = true)
    (hgood : ∀ w ∈ Cond.classLink RX8 141 nse :: Cond.initialized nse :: nsB, vx_ot w = true)
    (hU : vx_Zq Bundle.tN "UNASSIGNED_STACK" Bundle.steD A s s.heap) (hN : vx_Zq Bundle.tN "SUPPRESSED_SENTINEL" Bundle.listD A s s.heap) (hS : va_S A s.heap H locs) (hsize : ls.size = c.maxLocals)
    (d0 : decode cc pc = .ok (.new 141, 3)) (d3 : decode cc (pc + 3) = .ok (.dup, 1)) (d4 : decode cc (pc + 4) = .ok (.ldc_w is, 3)) (d7 : decode cc (pc + 7) = .ok (.invokespecial 145, 3)) (d10 : decode cc (pc + 10) = .ok (.athrow, 1))
    (hout : ∀ x ∈ c.exceptionTable.toList, covers x (pc + 10) = false)
    (hRframes : 2 + 3 < R.frames) (hRlocals : (rest.map fun v => v.category).sum + (13 * (2 + 1) + 43) ≤ R.locals) (hRcells : cells + 1 ≤ R.cells) (hRslots : slots + 6 ≤ R.slots) (hlocks : meth.locks = false)
    (hx : ∀ t : State, s.vm.Alike t.vm → H.size ≤ t.heap.size → (∀ q : Nat, q < H.size → t.heap[q]? = H[q]?) → XC nse s t)
    (hf : ∀ z ∈ locs, free z.base) (hc : cells + 1 ≤ mc) (hs : slots + 6 ≤ ms) :
    W p l e R s m args below meth c H locs cells slots (vx_MQ below Qc XC args s mc ms free) (F0 m pc ls rest) := by
  intro T hT X
  have htr : e.platform.stackTraces = false := (show e.platform.stackTraces = l.stackTraces by rw [X.admits.platform]).trans hl
  have Y := vx_rebase X (R' := { frames := R.frames, locals := R.locals, cells := 1, slots := 6 }) (Nat.le_refl _) (Nat.le_refl _) hRcells hRslots
  obtain ⟨s', hA⟩ : ∃ z, z = (T.setVm s.vm).setFrames (.invoking m args :: below) := ⟨_, rfl⟩
  rw [← hA] at Y
  have hvm : s'.vm = s.vm := by rw [hA]; rfl
  have hhp : s'.heap = H := by rw [hA]; exact hT
  have hW0 : s.WarmedH s'.vm := by rw [hvm]; exact State.WarmedH.refl s
  have hat' : ∀ w ∈ nsB, w.before args s' = true := fun w hw => vx_ot_at hW0 hvm.symm (hgood w (List.mem_cons_of_mem _ (List.mem_cons_of_mem _ hw))) (hat w hw)
  have hk' : (Cond.classLink RX8 141 nse).before args s' = true := vx_ot_at hW0 hvm.symm (hgood _ List.mem_cons_self) hk
  have hini' : (Cond.initialized nse).before args s' = true := vx_ot_at hW0 hvm.symm (hgood _ (List.mem_cons_of_mem _ List.mem_cons_self)) hini
  have hU' : vx_Zq Bundle.tN "UNASSIGNED_STACK" Bundle.steD A s' s'.heap := by rw [hhp]; exact vx_Zq.moved hW0.alike (hU.kept hS.2.1)
  have hN' : vx_Zq Bundle.tN "SUPPRESSED_SENTINEL" Bundle.listD A s' s'.heap := by rw [hhp]; exact vx_Zq.moved hW0.alike (hN.kept hS.2.1)
  have h : ∀ w ∈ nsA, w.before args s' = true := vx_own hat' (vx_isRefq hU'.1) (vx_isRefq hN'.1) hU'.2.word hN'.2.word
  have hown' : s'.vm.findClass RX8 = some m.cls := by rw [hvm]; exact hown
  have hins : (Cond.instantiable nse 6).before args s' = true := h _ (by decide +kernel)
  obtain ⟨vm₁, cX, kX, hfX, hkX, -, -, X₁, st1⟩ := Y.newCold hexec (own := RX8) (C := nse) (index := 141) (n := 6) hown' hk' hins hini'
    (g := F0 m pc ls rest) rfl (by rw [hb]; exact d0) (Nat.le_refl _) (Nat.le_refl _)
  generalize hT1 : (T.setVm vm₁).pushCell { cls := cX, slots := kX.instanceTypes.map defaultValue, vm := .none } = T1 at X₁ st1
  have hcat : (Value.ref T.heap.size).category = 1 := rfl
  have hcellA : T1.heap[T.heap.size]? = some (freshCell cX kX) := by rw [← hT1]; exact State.heap_pushCell_size _ _
  have d3' : decode c.code (pc + 3) = .ok (.dup, 1) := by rw [hb]; exact d3
  have d4' : decode c.code (pc + 4) = .ok (.ldc_w is, 3) := by rw [hb]; exact d4
  have hstr' : vk_R RX8 is text sa s' := vk_R.warm hW0 hstr
  obtain ⟨U, hsteps, hrun, hend, hW, hsame, ce, hce, hO1, hO2⟩ := ns_ctor X₁ hexec htr hown' h hfX hkX hcellA (by rw [hhp, hT]; exact Nat.le_refl _) (v := .ref sa) rfl
    (g := { method := m, pc := pc + 7, locals := ls, stack := .ref sa :: .ref T.heap.size :: .ref T.heap.size :: rest, locked := none }) rfl hsize rfl rfl (r := rest) rfl
    (by rw [hb]; exact d7) (by rw [hb]; exact d10) hout hRframes (by simp only [List.map_cons, List.sum_cons, hcat]; omega) hlocks
  obtain ⟨f1, f2⟩ := vx_frame hsame
  rw [hhp] at f1 f2
  have hWs : s.WarmedH U.vm := State.WarmedH.trans hW0 hW
  have hcl : s.vm.findClass nse = some ce.cls := by
    have h9 := hO2
    rw [hvm] at h9
    exact h9
  have hall : s.sameButNew ({ U with vm := s.vm } : State) locs mc ms := by
    subst hA
    obtain ⟨e1, e2⟩ := hsame
    rw [State.setFrames_setFrames] at e1
    have h2 : (T.setVm s.vm).sameButNew ({ U with vm := s.vm } : State) [] (0 + 1) (0 + 6) := ⟨e1, e2⟩
    have h3 := X.same.trans h2
    rw [List.append_nil] at h3
    exact h3.mono hc hs
  refine ⟨U, ?_, .threw T.heap.size, hrun, hend, Or.inr ⟨T.heap.size, rfl, nse, ce, locs, hx U hWs.alike f1 (fun q hq => f2 q hq (fun z hz => nomatch hz)), hce, hO1, hcl, hWs, hall, hf⟩⟩
  refine st1 _ ?_
  show Steps p.tables e below (T1.setTop { method := m, pc := pc + 3, locals := ls, stack := .ref T.heap.size :: rest, locked := none }) _
  jvm_step X₁.here [X₁.here.top, hexec, d3', Value.category]
  exact X₁.ldcStringW hexec (own := RX8) (text := text) (index := is) (a := sa) hown' hstr'.1 hstr'.2
    (g := { method := m, pc := pc + 4, locals := ls, stack := .ref T.heap.size :: .ref T.heap.size :: rest, locked := none }) rfl d4' _ hsteps
end Ends2
section Throw
variable {E : Ev} {Z : Zx} {cc : ByteArray} {ret : Option FieldType} {nL d : Nat} {S : List Sh} {σ : Sg} {pc : Nat} {lv : List (Nat × Value)}
theorem XcT.of {s t : State} {H : Heap} {locs : List Loc} (h1 : HR E S σ s H) (h2 : va_S (AE E) s.heap H locs) (hA : s.vm.Alike t.vm) (hz : H.size ≤ t.heap.size) (hk : ∀ q : Nat, q < H.size → t.heap[q]? = H[q]?) : XcT E S σ nse s t := by
  refine ⟨rfl, ?_, Nat.le_trans h2.1 hz, fun q q1 q2 => by rw [hk q (Nat.lt_of_lt_of_le q1 h2.1)]; exact h2.2.1 q q1 q2⟩
  obtain ⟨cA, tys, hK, hP, hT, hlen, hbs⟩ := h1
  exact ⟨cA, tys, va_K.moved hA hK, va_P.kept hP (fun k q hq => hk q.1 (vx_lt hP hq)), hT, hlen, Nat.le_trans hbs hz⟩
theorem r_throw (C : Ctx E Z RX8 cc ret nL d 1 6) (hl : E.1.stackTraces = false) (i : Nat) {q : Nat × String} (hq : oX[i]? = some q) (hd5 : 5 ≤ d) (hE : EnX E Z S σ)
    (d0 : decode cc pc = .ok (.new 141, 3)) (d3 : decode cc (pc + 3) = .ok (.dup, 1)) (d4 : decode cc (pc + 4) = .ok (.ldc q.1, 2)) (d6 : decode cc (pc + 6) = .ok (.invokespecial 145, 3)) (d9 : decode cc (pc + 9) = .ok (.athrow, 1)) : Wm E Z 0 0 S σ pc lv [] := by
  obtain ⟨⟨p, e, s, m, args, below, meth, c⟩, R, nL', Q⟩ := Z
  obtain ⟨hx, hb, hr, hlocks, hml, rfl, rfl, hown, hts, hO, hbase⟩ := C
  obtain ⟨rfl, htab⟩ := hE
  intro H locs ls h1 h2 h3
  exact ns_throwS (A := AE E) hx hb hl hown (hts _ (List.mem_filter.mpr ⟨ns_l, rfl⟩)) (hts _ (List.mem_filter.mpr ⟨ns_i, rfl⟩)) (hO.2.2.2.1 i q hq) (ns_hat hts hO) ns_g hO.2.1.2.2.2.1 hO.2.1.2.2.2.2 h2 (h3.1.trans hml.symm) d0 d3 d4 d6 d9 (fun x hx => (htab x hx).elim) (by show 2 + 3 < d + 1; omega) (by show 0 + (13 * 3 + 43) ≤ 64 * (d + 1); omega) (Nat.le_refl _) (Nat.le_refl _) hlocks (fun t a1 a2 a3 => XcT.of h1 h2 a1 a2 a3) (fun z hz => h2.2.2 z hz) (Nat.le_refl _) (Nat.le_refl _)
theorem r_throwW (C : Ctx E Z RX8 cc ret nL d 1 6) (hl : E.1.stackTraces = false) (i : Nat) {q : Nat × String} (hq : oX[i]? = some q) (hd5 : 5 ≤ d) (hE : EnX E Z S σ)
    (d0 : decode cc pc = .ok (.new 141, 3)) (d3 : decode cc (pc + 3) = .ok (.dup, 1)) (d4 : decode cc (pc + 4) = .ok (.ldc_w q.1, 3)) (d6 : decode cc (pc + 7) = .ok (.invokespecial 145, 3)) (d9 : decode cc (pc + 10) = .ok (.athrow, 1)) : Wm E Z 0 0 S σ pc lv [] := by
  obtain ⟨⟨p, e, s, m, args, below, meth, c⟩, R, nL', Q⟩ := Z
  obtain ⟨hx, hb, hr, hlocks, hml, rfl, rfl, hown, hts, hO, hbase⟩ := C
  obtain ⟨rfl, htab⟩ := hE
  intro H locs ls h1 h2 h3
  exact ns_throwSW (A := AE E) hx hb hl hown (hts _ (List.mem_filter.mpr ⟨ns_l, rfl⟩)) (hts _ (List.mem_filter.mpr ⟨ns_i, rfl⟩)) (hO.2.2.2.1 i q hq) (ns_hat hts hO) ns_g hO.2.1.2.2.2.1 hO.2.1.2.2.2.2 h2 (h3.1.trans hml.symm) d0 d3 d4 d6 d9 (fun x hx => (htab x hx).elim) (by show 2 + 3 < d + 1; omega) (by show 0 + (13 * 3 + 43) ≤ 64 * (d + 1); omega) (Nat.le_refl _) (Nat.le_refl _) hlocks (fun t a1 a2 a3 => XcT.of h1 h2 a1 a2 a3) (fun z hz => h2.2.2 z hz) (Nat.le_refl _) (Nat.le_refl _)
end Throw
theorem X8_thing_x {E : Ev} (hl : E.1.stackTraces = false) (N : Nat) {a w : Int32} {σ : Sg} (h : X0_isThing N a σ = some 0 ∨ ∃ r, X0_isThing N a σ = some r ∧ r ≠ 0 ∧ (w < 0 ∨ nI 7 < w)) : Xm E 7 yX8_thing cX8_thing 3 (some .int) [.ref 0, .int a, .int w] SH0 σ := by
  refine Xm.intro (by decide +kernel) (Nat.le_of_ble_eq_true rfl) (fun Z C hE => ?_)
  show Wm E Z 0 0 SH0 σ 0 [(0, .ref 0), (1, .int a), (2, .int w)] []
  have go : ∀ r1, X0_isThing N a σ = some r1 → ((r1 = 0) ∨ (r1 ≠ 0 ∧ (w < 0 ∨ nI 7 < w))) → Wm E Z 0 0 SH0 σ 0 [(0, .ref 0), (1, .int a), (2, .int w)] [] := by
    intro r1 e2 hc
    refine r_aload_n (pc' := 1) C dX8_thing_0 rfl 0 rfl ?_
    refine r_getR (pc' := 4) C flX8_26 sh_0 rfl dX8_thing_1 rfl ?_
    refine r_iload_n (pc' := 5) C dX8_thing_4 rfl 1 rfl ?_
    refine r_cV1 (pc' := 8) C (X0_isThing_ok  e2) mlX8_138 ceX0_isThing cvX0_isThing sh_5 rfl rfl rfl (Nat.le_of_ble_eq_true rfl) rfl (Nat.le_of_ble_eq_true rfl) dX8_thing_5 rfl (kk := ?_)
    refine r_if_ne (tgt := 21) (pc' := 11) C dX8_thing_8 rfl rfl (fun c3 => ?_) (fun c3 => ?_)
    · have hw := (hc.resolve_left c3).2
      refine r_iload_n (pc' := 22) C dX8_thing_21 rfl 2 rfl ?_
      refine r_tabOut (tgt := 187) C dX8_thing_22 ?_ rfl ?_
      · rcases hw with hw | hw
        · exact Or.inl (by have := Int32.lt_iff_toInt_lt.mp hw; exact this)
        · exact Or.inr (by have := Int32.lt_iff_toInt_lt.mp hw; exact this)
      · exact r_throw C hl 1 rfl (Nat.le_of_ble_eq_true rfl) hE dX8_thing_187 dX8_thing_190 dX8_thing_191 dX8_thing_193 dX8_thing_196
    · exact r_throw C hl 0 rfl (Nat.le_of_ble_eq_true rfl) hE dX8_thing_11 dX8_thing_14 dX8_thing_15 dX8_thing_17 dX8_thing_20
  rcases h with h | ⟨r, h1, h2, h3⟩
  · exact go 0 h (Or.inl rfl)
  · exact go r h1 (Or.inr ⟨h2, h3⟩)
theorem X8_row_x {E : Ev} (hl : E.1.stackTraces = false) {v : Int32} {σ : Sg} (h : v < 0 ∨ gi σ 3 1 ≤ v) : Xm E 7 yX8_row cX8_row 2 (some .long) [.ref 0, .int v] SH0 σ := by
  refine Xm.intro (by decide +kernel) (Nat.le_of_ble_eq_true rfl) (fun Z C hE => ?_)
  show Wm E Z 0 0 SH0 σ 0 [(0, .ref 0), (1, .int v)] []
  refine r_iload_n (pc' := 1) C dX8_row_0 rfl 1 rfl ?_
  refine r_if_lt (tgt := 21) (pc' := 4) C dX8_row_1 rfl rfl (fun c1 => ?_) (fun c1 => ?_)
  · exact r_throwW C hl 2 rfl (Nat.le_of_ble_eq_true rfl) hE dX8_row_21 dX8_row_24 dX8_row_25 dX8_row_28 dX8_row_31
  · refine r_iload_n (pc' := 5) C dX8_row_4 rfl 1 rfl ?_
    refine r_aload_n (pc' := 6) C dX8_row_5 rfl 0 rfl ?_
    refine r_getR (pc' := 9) C flX8_19 sh_0 rfl dX8_row_6 rfl ?_
    refine r_getI (pc' := 12) C flX8_414 sh_3 rfl dX8_row_9 rfl ?_
    refine r_icmp_ge (tgt := 21) (pc' := 15) C dX8_row_12 rfl rfl (fun c2 => ?_) (fun c2 => ?_)
    · exact r_throwW C hl 2 rfl (Nat.le_of_ble_eq_true rfl) hE dX8_row_21 dX8_row_24 dX8_row_25 dX8_row_28 dX8_row_31
    · exact absurd (h.resolve_left c1) c2
