/-! ===== the judgement ===== -/
abbrev Cx : Type := Program × Env × State × MethodId × Array Value × List Frame × Method × Code
/-- a method's walk: machine, room, locals, end -/
abbrev Zx : Type := Cx × Room × Nat × (State → Prop)
def rmD (d mc ms : Nat) : Room := { frames := d + 1, cells := mc, slots := ms, locals := 64 * (d + 1) }
def Ctx (E : Ev) (Z : Zx) (own : String) (cc : ByteArray) (ret : Option FieldType) (nL d mc ms : Nat) : Prop :=
  match Z with
  | ((p, _, s, m, args, _, meth, c), R, nL', _) => p.tables.exec = Jvm.exec ∧ c.code = cc ∧ meth.sig.returnType = ret ∧ meth.locks = false ∧ c.maxLocals = nL ∧ nL' = nL ∧ R = rmD d mc ms ∧ s.vm.findClass own = some m.cls ∧ (∀ w ∈ lw_good, w.before args s = true) ∧ OL E s s.heap ∧ E.2.2.2 ≤ s.heap.size
def Wm (E : Ev) (Z : Zx) (cells slots : Nat) (S : List Sh) (σ : Sg) (pc : Nat) (lv : List (Nat × Value)) (st : List Value) : Prop :=
  match Z with
  | ((p, e, s, m, args, below, meth, c), R, nL, Q) => ∀ (H : Heap) (locs : List Loc) (ls : Array Slot), HR E S σ s H → va_S (AE E) s.heap H locs → lv_has ls nL (lv.map (fun q => (q.1, tr E q.2))) → W p E.1 e R s m args below meth c H locs cells slots Q (F0 m pc ls (st.map (tr E)))
def QcE (E : Ev) (S' : List Sh) (σ' : Sg) (rv : Option Value) : Array Value → State → Outcome → State → Prop := fun _ st o t => o = .returned (rv.map (tr E)) ∧ HR E S' σ' t t.heap ∧ va_F (AE E) st t
def En (E : Ev) (Z : Zx) (S' : List Sh) (σ' : Sg) (rv : Option Value) (mc ms : Nat) : Prop :=
  match Z with
  | ((_, _, s, _, args, below, _, _), _, _, Q) => Q = MQ below (QcE E S' σ' rv) args s mc ms (AE E)
section Rules
variable {E : Ev} {Z : Zx} {own : String} {cc : ByteArray} {ret : Option FieldType} {nL d mc ms cells slots : Nat} {S : List Sh} {σ : Sg} {pc : Nat} {lv : List (Nat × Value)} {st : List Value}
theorem lv_tr {ls : Array Slot} {nL : Nat} {lv : List (Nat × Value)} (h : lv_has ls nL (lv.map (fun q => (q.1, tr E q.2)))) (k : Nat) {i : Nat} {v : Value} (hk : lv[k]? = some (i, v)) : ls[i]? = some (.val (tr E v)) := lv_at h k (by rw [List.getElem?_map, hk]; rfl)
theorem lv_f1 {i : Nat} {v : Value} {lv lv' : List (Nat × Value)} (h : (i, v) :: lv.filter (fun q => !(q.1 == i) && !(q.1 + 1 == i && q.2.category == 2)) = lv') : (i, tr E v) :: (lv.map (fun q => (q.1, tr E q.2))).filter (fun q => !(q.1 == i) && !(q.1 + 1 == i && q.2.category == 2)) = lv'.map (fun q => (q.1, tr E q.2)) := by
  subst h
  rw [List.filter_map, List.map_cons]
  congr 2
  apply List.filter_congr
  intro q _
  simp [tr_cat]
theorem lv_f2 {i : Nat} {v : Value} {lv lv' : List (Nat × Value)} (h : (i, v) :: lv.filter (fun q => !(q.1 == i) && (!(q.1 == i + 1) && !(q.1 + 1 == i && q.2.category == 2))) = lv') : (i, tr E v) :: (lv.map (fun q => (q.1, tr E q.2))).filter (fun q => !(q.1 == i) && (!(q.1 == i + 1) && !(q.1 + 1 == i && q.2.category == 2))) = lv'.map (fun q => (q.1, tr E q.2)) := by
  subst h
  rw [List.filter_map, List.map_cons]
  congr 2
  apply List.filter_congr
  intro q _
  simp [tr_cat]
theorem r_sub {lv' : List (Nat × Value)} (ks : List Nat) (h : ks.filterMap (fun k => lv[k]?) = lv') (k : Wm E Z cells slots S σ pc lv' st) : Wm E Z cells slots S σ pc lv st := by
  obtain ⟨⟨p, e, s, m, args, below, meth, c⟩, R, nL, Q⟩ := Z
  intro H locs ls h1 h2 h3
  refine k H locs ls h1 h2 ⟨h3.1, h3.2.1, ?_⟩
  intro q hq
  obtain ⟨q0, hq0, rfl⟩ := List.mem_map.mp hq
  rw [← h] at hq0
  obtain ⟨i, -, hi⟩ := List.mem_filterMap.mp hq0
  exact lv_tr h3 i hi
theorem r_iconst (C : Ctx E Z own cc ret nL d mc ms) {n : Int} {v : Int32} (hd : decode cc pc = .ok (.iconst n, 1)) {pc' : Nat} (hp : pc + 1 = pc') (hv : Int32.ofInt n = v) (k : Wm E Z cells slots S σ pc' lv (.int v :: st)) : Wm E Z cells slots S σ pc lv (st) := by
  subst hp
  obtain ⟨⟨p, e, s, m, args, below, meth, c⟩, R, nL', Q⟩ := Z
  obtain ⟨hx, hb, hr, hlocks, hml, rfl, rfl, hown, hts, hO, hbase⟩ := C
  exact fun H locs ls h1 h2 h3 => lv_iconst hx hb hd hv (k H locs ls h1 h2 h3)
theorem r_bipush (C : Ctx E Z own cc ret nL d mc ms) {n : Int} {v : Int32} (hd : decode cc pc = .ok (.bipush n, 2)) {pc' : Nat} (hp : pc + 2 = pc') (hv : (Int8.ofInt n).toInt32 = v) (k : Wm E Z cells slots S σ pc' lv (.int v :: st)) : Wm E Z cells slots S σ pc lv (st) := by
  subst hp
  obtain ⟨⟨p, e, s, m, args, below, meth, c⟩, R, nL', Q⟩ := Z
  obtain ⟨hx, hb, hr, hlocks, hml, rfl, rfl, hown, hts, hO, hbase⟩ := C
  exact fun H locs ls h1 h2 h3 => lv_bipush hx hb hd hv (k H locs ls h1 h2 h3)
theorem r_sipush (C : Ctx E Z own cc ret nL d mc ms) {n : Int} {v : Int32} (hd : decode cc pc = .ok (.sipush n, 3)) {pc' : Nat} (hp : pc + 3 = pc') (hv : (Int16.ofInt n).toInt32 = v) (k : Wm E Z cells slots S σ pc' lv (.int v :: st)) : Wm E Z cells slots S σ pc lv (st) := by
  subst hp
  obtain ⟨⟨p, e, s, m, args, below, meth, c⟩, R, nL', Q⟩ := Z
  obtain ⟨hx, hb, hr, hlocks, hml, rfl, rfl, hown, hts, hO, hbase⟩ := C
  exact fun H locs ls h1 h2 h3 => lv_sipush hx hb hd hv (k H locs ls h1 h2 h3)
theorem r_lconst (C : Ctx E Z own cc ret nL d mc ms) {n : Fin 2} {v : Int64} (hd : decode cc pc = .ok (.lconst n, 1)) {pc' : Nat} (hp : pc + 1 = pc') (hv : Int64.ofNat (n : Nat) = v) (k : Wm E Z cells slots S σ pc' lv (.long v :: st)) : Wm E Z cells slots S σ pc lv (st) := by
  subst hp
  obtain ⟨⟨p, e, s, m, args, below, meth, c⟩, R, nL', Q⟩ := Z
  obtain ⟨hx, hb, hr, hlocks, hml, rfl, rfl, hown, hts, hO, hbase⟩ := C
  exact fun H locs ls h1 h2 h3 => lv_lconst hx hb hd hv (k H locs ls h1 h2 h3)
theorem r_iload_n (C : Ctx E Z own cc ret nL d mc ms) {n : Fin 4} {x : Int32} (hd : decode cc pc = .ok (.iload_n n, 1)) {pc' : Nat} (hp : pc + 1 = pc') (j : Nat) (hl : lv[j]? = some ((n : Nat), .int x)) (k : Wm E Z cells slots S σ pc' lv (.int x :: st)) : Wm E Z cells slots S σ pc lv (st) := by
  subst hp
  obtain ⟨⟨p, e, s, m, args, below, meth, c⟩, R, nL', Q⟩ := Z
  obtain ⟨hx, hb, hr, hlocks, hml, rfl, rfl, hown, hts, hO, hbase⟩ := C
  exact fun H locs ls h1 h2 h3 => lv_iload_n hx hb hd rfl (lv_tr h3 j hl) (k H locs ls h1 h2 h3)
theorem r_iload (C : Ctx E Z own cc ret nL d mc ms) {i : Nat} {x : Int32} (hd : decode cc pc = .ok (.iload i, 2)) {pc' : Nat} (hp : pc + 2 = pc') (j : Nat) (hl : lv[j]? = some (i, .int x)) (k : Wm E Z cells slots S σ pc' lv (.int x :: st)) : Wm E Z cells slots S σ pc lv (st) := by
  subst hp
  obtain ⟨⟨p, e, s, m, args, below, meth, c⟩, R, nL', Q⟩ := Z
  obtain ⟨hx, hb, hr, hlocks, hml, rfl, rfl, hown, hts, hO, hbase⟩ := C
  exact fun H locs ls h1 h2 h3 => lv_iload hx hb hd (lv_tr h3 j hl) (k H locs ls h1 h2 h3)
theorem r_istore_n (C : Ctx E Z own cc ret nL d mc ms) {n : Fin 4} {i : Nat} {x : Int32} {lv2 : List (Nat × Value)} (hd : decode cc pc = .ok (.istore_n n, 1)) {pc' : Nat} (hp : pc + 1 = pc') (hi : (n : Nat) = i) (hn : i < nL) (hl : (i, Value.int x) :: lv.filter (fun q => !(q.1 == i) && !(q.1 + 1 == i && q.2.category == 2)) = lv2) (k : Wm E Z cells slots S σ pc' lv2 st) : Wm E Z cells slots S σ pc lv (.int x :: st) := by
  subst hp
  obtain ⟨⟨p, e, s, m, args, below, meth, c⟩, R, nL', Q⟩ := Z
  obtain ⟨hx, hb, hr, hlocks, hml, rfl, rfl, hown, hts, hO, hbase⟩ := C
  exact fun H locs ls h1 h2 h3 => lv_istore_n hx hb hd hi h3 hn (lv_f1 hl) (fun ls2 h4 => k H locs ls2 h1 h2 h4)
theorem r_istore (C : Ctx E Z own cc ret nL d mc ms) {i : Nat} {x : Int32} {lv2 : List (Nat × Value)} (hd : decode cc pc = .ok (.istore i, 2)) {pc' : Nat} (hp : pc + 2 = pc') (hn : i < nL) (hl : (i, Value.int x) :: lv.filter (fun q => !(q.1 == i) && !(q.1 + 1 == i && q.2.category == 2)) = lv2) (k : Wm E Z cells slots S σ pc' lv2 st) : Wm E Z cells slots S σ pc lv (.int x :: st) := by
  subst hp
  obtain ⟨⟨p, e, s, m, args, below, meth, c⟩, R, nL', Q⟩ := Z
  obtain ⟨hx, hb, hr, hlocks, hml, rfl, rfl, hown, hts, hO, hbase⟩ := C
  exact fun H locs ls h1 h2 h3 => lv_istore hx hb hd h3 hn (lv_f1 hl) (fun ls2 h4 => k H locs ls2 h1 h2 h4)
theorem r_lload_n (C : Ctx E Z own cc ret nL d mc ms) {n : Fin 4} {x : Int64} (hd : decode cc pc = .ok (.lload_n n, 1)) {pc' : Nat} (hp : pc + 1 = pc') (j : Nat) (hl : lv[j]? = some ((n : Nat), .long x)) (k : Wm E Z cells slots S σ pc' lv (.long x :: st)) : Wm E Z cells slots S σ pc lv (st) := by
  subst hp
  obtain ⟨⟨p, e, s, m, args, below, meth, c⟩, R, nL', Q⟩ := Z
  obtain ⟨hx, hb, hr, hlocks, hml, rfl, rfl, hown, hts, hO, hbase⟩ := C
  exact fun H locs ls h1 h2 h3 => lv_lload_n hx hb hd rfl (lv_tr h3 j hl) (k H locs ls h1 h2 h3)
theorem r_lload (C : Ctx E Z own cc ret nL d mc ms) {i : Nat} {x : Int64} (hd : decode cc pc = .ok (.lload i, 2)) {pc' : Nat} (hp : pc + 2 = pc') (j : Nat) (hl : lv[j]? = some (i, .long x)) (k : Wm E Z cells slots S σ pc' lv (.long x :: st)) : Wm E Z cells slots S σ pc lv (st) := by
  subst hp
  obtain ⟨⟨p, e, s, m, args, below, meth, c⟩, R, nL', Q⟩ := Z
  obtain ⟨hx, hb, hr, hlocks, hml, rfl, rfl, hown, hts, hO, hbase⟩ := C
  exact fun H locs ls h1 h2 h3 => lv_lload hx hb hd (lv_tr h3 j hl) (k H locs ls h1 h2 h3)
theorem r_lstore_n (C : Ctx E Z own cc ret nL d mc ms) {n : Fin 4} {i : Nat} {x : Int64} {lv2 : List (Nat × Value)} (hd : decode cc pc = .ok (.lstore_n n, 1)) {pc' : Nat} (hp : pc + 1 = pc') (hi : (n : Nat) = i) (hn : i + 1 < nL) (hl : (i, Value.long x) :: lv.filter (fun q => !(q.1 == i) && (!(q.1 == i + 1) && !(q.1 + 1 == i && q.2.category == 2))) = lv2) (k : Wm E Z cells slots S σ pc' lv2 st) : Wm E Z cells slots S σ pc lv (.long x :: st) := by
  subst hp
  obtain ⟨⟨p, e, s, m, args, below, meth, c⟩, R, nL', Q⟩ := Z
  obtain ⟨hx, hb, hr, hlocks, hml, rfl, rfl, hown, hts, hO, hbase⟩ := C
  exact fun H locs ls h1 h2 h3 => lv_lstore_n hx hb hd hi h3 hn (lv_f2 hl) (fun ls2 h4 => k H locs ls2 h1 h2 h4)
theorem r_lstore (C : Ctx E Z own cc ret nL d mc ms) {i : Nat} {x : Int64} {lv2 : List (Nat × Value)} (hd : decode cc pc = .ok (.lstore i, 2)) {pc' : Nat} (hp : pc + 2 = pc') (hn : i + 1 < nL) (hl : (i, Value.long x) :: lv.filter (fun q => !(q.1 == i) && (!(q.1 == i + 1) && !(q.1 + 1 == i && q.2.category == 2))) = lv2) (k : Wm E Z cells slots S σ pc' lv2 st) : Wm E Z cells slots S σ pc lv (.long x :: st) := by
  subst hp
  obtain ⟨⟨p, e, s, m, args, below, meth, c⟩, R, nL', Q⟩ := Z
  obtain ⟨hx, hb, hr, hlocks, hml, rfl, rfl, hown, hts, hO, hbase⟩ := C
  exact fun H locs ls h1 h2 h3 => lv_lstore hx hb hd h3 hn (lv_f2 hl) (fun ls2 h4 => k H locs ls2 h1 h2 h4)
theorem r_aload_n (C : Ctx E Z own cc ret nL d mc ms) {n : Fin 4} {x : Nat} (hd : decode cc pc = .ok (.aload_n n, 1)) {pc' : Nat} (hp : pc + 1 = pc') (j : Nat) (hl : lv[j]? = some ((n : Nat), .ref x)) (k : Wm E Z cells slots S σ pc' lv (.ref x :: st)) : Wm E Z cells slots S σ pc lv (st) := by
  subst hp
  obtain ⟨⟨p, e, s, m, args, below, meth, c⟩, R, nL', Q⟩ := Z
  obtain ⟨hx, hb, hr, hlocks, hml, rfl, rfl, hown, hts, hO, hbase⟩ := C
  exact fun H locs ls h1 h2 h3 => lv_aload_n hx hb hd rfl (lv_tr h3 j hl) (k H locs ls h1 h2 h3)
theorem r_aload (C : Ctx E Z own cc ret nL d mc ms) {i : Nat} {x : Nat} (hd : decode cc pc = .ok (.aload i, 2)) {pc' : Nat} (hp : pc + 2 = pc') (j : Nat) (hl : lv[j]? = some (i, .ref x)) (k : Wm E Z cells slots S σ pc' lv (.ref x :: st)) : Wm E Z cells slots S σ pc lv (st) := by
  subst hp
  obtain ⟨⟨p, e, s, m, args, below, meth, c⟩, R, nL', Q⟩ := Z
  obtain ⟨hx, hb, hr, hlocks, hml, rfl, rfl, hown, hts, hO, hbase⟩ := C
  exact fun H locs ls h1 h2 h3 => lv_aload hx hb hd (lv_tr h3 j hl) (k H locs ls h1 h2 h3)
theorem r_astore_n (C : Ctx E Z own cc ret nL d mc ms) {n : Fin 4} {i : Nat} {x : Nat} {lv2 : List (Nat × Value)} (hd : decode cc pc = .ok (.astore_n n, 1)) {pc' : Nat} (hp : pc + 1 = pc') (hi : (n : Nat) = i) (hn : i < nL) (hl : (i, Value.ref x) :: lv.filter (fun q => !(q.1 == i) && !(q.1 + 1 == i && q.2.category == 2)) = lv2) (k : Wm E Z cells slots S σ pc' lv2 st) : Wm E Z cells slots S σ pc lv (.ref x :: st) := by
  subst hp
  obtain ⟨⟨p, e, s, m, args, below, meth, c⟩, R, nL', Q⟩ := Z
  obtain ⟨hx, hb, hr, hlocks, hml, rfl, rfl, hown, hts, hO, hbase⟩ := C
  exact fun H locs ls h1 h2 h3 => lv_astore_n hx hb hd hi h3 hn (lv_f1 hl) (fun ls2 h4 => k H locs ls2 h1 h2 h4)
theorem r_astore (C : Ctx E Z own cc ret nL d mc ms) {i : Nat} {x : Nat} {lv2 : List (Nat × Value)} (hd : decode cc pc = .ok (.astore i, 2)) {pc' : Nat} (hp : pc + 2 = pc') (hn : i < nL) (hl : (i, Value.ref x) :: lv.filter (fun q => !(q.1 == i) && !(q.1 + 1 == i && q.2.category == 2)) = lv2) (k : Wm E Z cells slots S σ pc' lv2 st) : Wm E Z cells slots S σ pc lv (.ref x :: st) := by
  subst hp
  obtain ⟨⟨p, e, s, m, args, below, meth, c⟩, R, nL', Q⟩ := Z
  obtain ⟨hx, hb, hr, hlocks, hml, rfl, rfl, hown, hts, hO, hbase⟩ := C
  exact fun H locs ls h1 h2 h3 => lv_astore hx hb hd h3 hn (lv_f1 hl) (fun ls2 h4 => k H locs ls2 h1 h2 h4)
theorem r_iinc (C : Ctx E Z own cc ret nL d mc ms) {i : Nat} {n : Int} {x v : Int32} {lv2 : List (Nat × Value)} (hd : decode cc pc = .ok (.iinc i n, 3)) {pc' : Nat} (hp : pc + 3 = pc') (j : Nat) (hk : lv[j]? = some (i, .int x)) (hv : x + Int32.ofInt n = v) (hn : i < nL) (hl : (i, Value.int v) :: lv.filter (fun q => !(q.1 == i) && !(q.1 + 1 == i && q.2.category == 2)) = lv2) (k : Wm E Z cells slots S σ pc' lv2 st) : Wm E Z cells slots S σ pc lv st := by
  subst hp
  obtain ⟨⟨p, e, s, m, args, below, meth, c⟩, R, nL', Q⟩ := Z
  obtain ⟨hx, hb, hr, hlocks, hml, rfl, rfl, hown, hts, hO, hbase⟩ := C
  exact fun H locs ls h1 h2 h3 => lv_iinc hx hb hd h3 (k := j) (by rw [List.getElem?_map, hk]; rfl) hv hn (lv_f1 hl) (fun ls2 h4 => k H locs ls2 h1 h2 h4)
theorem r_iadd (C : Ctx E Z own cc ret nL d mc ms) {x y : Int32} (hd : decode cc pc = .ok (.iadd, 1)) {pc' : Nat} (hp : pc + 1 = pc')  (k : Wm E Z cells slots S σ pc' lv (.int (x + y) :: st)) : Wm E Z cells slots S σ pc lv (.int y :: .int x :: st) := by
  subst hp
  obtain ⟨⟨p, e, s, m, args, below, meth, c⟩, R, nL', Q⟩ := Z
  obtain ⟨hx, hb, hr, hlocks, hml, rfl, rfl, hown, hts, hO, hbase⟩ := C
  exact fun H locs ls h1 h2 h3 => lv_iadd hx hb hd  (k H locs ls h1 h2 h3)
theorem r_isub (C : Ctx E Z own cc ret nL d mc ms) {x y : Int32} (hd : decode cc pc = .ok (.isub, 1)) {pc' : Nat} (hp : pc + 1 = pc')  (k : Wm E Z cells slots S σ pc' lv (.int (x - y) :: st)) : Wm E Z cells slots S σ pc lv (.int y :: .int x :: st) := by
  subst hp
  obtain ⟨⟨p, e, s, m, args, below, meth, c⟩, R, nL', Q⟩ := Z
  obtain ⟨hx, hb, hr, hlocks, hml, rfl, rfl, hown, hts, hO, hbase⟩ := C
  exact fun H locs ls h1 h2 h3 => lv_isub hx hb hd  (k H locs ls h1 h2 h3)
theorem r_imul (C : Ctx E Z own cc ret nL d mc ms) {x y : Int32} (hd : decode cc pc = .ok (.imul, 1)) {pc' : Nat} (hp : pc + 1 = pc')  (k : Wm E Z cells slots S σ pc' lv (.int (x * y) :: st)) : Wm E Z cells slots S σ pc lv (.int y :: .int x :: st) := by
  subst hp
  obtain ⟨⟨p, e, s, m, args, below, meth, c⟩, R, nL', Q⟩ := Z
  obtain ⟨hx, hb, hr, hlocks, hml, rfl, rfl, hown, hts, hO, hbase⟩ := C
  exact fun H locs ls h1 h2 h3 => lv_imul hx hb hd  (k H locs ls h1 h2 h3)
theorem r_iand (C : Ctx E Z own cc ret nL d mc ms) {x y : Int32} (hd : decode cc pc = .ok (.iand, 1)) {pc' : Nat} (hp : pc + 1 = pc')  (k : Wm E Z cells slots S σ pc' lv (.int (x &&& y) :: st)) : Wm E Z cells slots S σ pc lv (.int y :: .int x :: st) := by
  subst hp
  obtain ⟨⟨p, e, s, m, args, below, meth, c⟩, R, nL', Q⟩ := Z
  obtain ⟨hx, hb, hr, hlocks, hml, rfl, rfl, hown, hts, hO, hbase⟩ := C
  exact fun H locs ls h1 h2 h3 => lv_iand hx hb hd  (k H locs ls h1 h2 h3)
theorem r_ior (C : Ctx E Z own cc ret nL d mc ms) {x y : Int32} (hd : decode cc pc = .ok (.ior, 1)) {pc' : Nat} (hp : pc + 1 = pc')  (k : Wm E Z cells slots S σ pc' lv (.int (x ||| y) :: st)) : Wm E Z cells slots S σ pc lv (.int y :: .int x :: st) := by
  subst hp
  obtain ⟨⟨p, e, s, m, args, below, meth, c⟩, R, nL', Q⟩ := Z
  obtain ⟨hx, hb, hr, hlocks, hml, rfl, rfl, hown, hts, hO, hbase⟩ := C
  exact fun H locs ls h1 h2 h3 => lv_ior hx hb hd  (k H locs ls h1 h2 h3)
theorem r_ixor (C : Ctx E Z own cc ret nL d mc ms) {x y : Int32} (hd : decode cc pc = .ok (.ixor, 1)) {pc' : Nat} (hp : pc + 1 = pc')  (k : Wm E Z cells slots S σ pc' lv (.int (x ^^^ y) :: st)) : Wm E Z cells slots S σ pc lv (.int y :: .int x :: st) := by
  subst hp
  obtain ⟨⟨p, e, s, m, args, below, meth, c⟩, R, nL', Q⟩ := Z
  obtain ⟨hx, hb, hr, hlocks, hml, rfl, rfl, hown, hts, hO, hbase⟩ := C
  exact fun H locs ls h1 h2 h3 => lv_ixor hx hb hd  (k H locs ls h1 h2 h3)
theorem r_ishl (C : Ctx E Z own cc ret nL d mc ms) {x y : Int32} (hd : decode cc pc = .ok (.ishl, 1)) {pc' : Nat} (hp : pc + 1 = pc')  (k : Wm E Z cells slots S σ pc' lv (.int (x <<< (y &&& 31)) :: st)) : Wm E Z cells slots S σ pc lv (.int y :: .int x :: st) := by
  subst hp
  obtain ⟨⟨p, e, s, m, args, below, meth, c⟩, R, nL', Q⟩ := Z
  obtain ⟨hx, hb, hr, hlocks, hml, rfl, rfl, hown, hts, hO, hbase⟩ := C
  exact fun H locs ls h1 h2 h3 => lv_ishl hx hb hd  (k H locs ls h1 h2 h3)
theorem r_ishr (C : Ctx E Z own cc ret nL d mc ms) {x y : Int32} (hd : decode cc pc = .ok (.ishr, 1)) {pc' : Nat} (hp : pc + 1 = pc')  (k : Wm E Z cells slots S σ pc' lv (.int (x >>> (y &&& 31)) :: st)) : Wm E Z cells slots S σ pc lv (.int y :: .int x :: st) := by
  subst hp
  obtain ⟨⟨p, e, s, m, args, below, meth, c⟩, R, nL', Q⟩ := Z
  obtain ⟨hx, hb, hr, hlocks, hml, rfl, rfl, hown, hts, hO, hbase⟩ := C
  exact fun H locs ls h1 h2 h3 => lv_ishr hx hb hd  (k H locs ls h1 h2 h3)
theorem r_idiv (C : Ctx E Z own cc ret nL d mc ms) {x y : Int32} (hd : decode cc pc = .ok (.idiv, 1)) {pc' : Nat} (hp : pc + 1 = pc') (hne : ¬ y = 0) (k : Wm E Z cells slots S σ pc' lv (.int (x / y) :: st)) : Wm E Z cells slots S σ pc lv (.int y :: .int x :: st) := by
  subst hp
  obtain ⟨⟨p, e, s, m, args, below, meth, c⟩, R, nL', Q⟩ := Z
  obtain ⟨hx, hb, hr, hlocks, hml, rfl, rfl, hown, hts, hO, hbase⟩ := C
  exact fun H locs ls h1 h2 h3 => lv_idiv hx hb hd hne (k H locs ls h1 h2 h3)
theorem r_irem (C : Ctx E Z own cc ret nL d mc ms) {x y : Int32} (hd : decode cc pc = .ok (.irem, 1)) {pc' : Nat} (hp : pc + 1 = pc') (hne : ¬ y = 0) (k : Wm E Z cells slots S σ pc' lv (.int (x - x / y * y) :: st)) : Wm E Z cells slots S σ pc lv (.int y :: .int x :: st) := by
  subst hp
  obtain ⟨⟨p, e, s, m, args, below, meth, c⟩, R, nL', Q⟩ := Z
  obtain ⟨hx, hb, hr, hlocks, hml, rfl, rfl, hown, hts, hO, hbase⟩ := C
  exact fun H locs ls h1 h2 h3 => lv_irem hx hb hd hne (k H locs ls h1 h2 h3)
theorem r_iushr (C : Ctx E Z own cc ret nL d mc ms) {x y v : Int32} (hd : decode cc pc = .ok (.iushr, 1)) {pc' : Nat} (hp : pc + 1 = pc') (hv : (x.toUInt32 >>> (y.toUInt32 &&& Int32.toUInt32 31)).toInt32 = v) (k : Wm E Z cells slots S σ pc' lv (.int v :: st)) : Wm E Z cells slots S σ pc lv (.int y :: .int x :: st) := by
  subst hp
  obtain ⟨⟨p, e, s, m, args, below, meth, c⟩, R, nL', Q⟩ := Z
  obtain ⟨hx, hb, hr, hlocks, hml, rfl, rfl, hown, hts, hO, hbase⟩ := C
  exact fun H locs ls h1 h2 h3 => lv_iushr hx hb hd hv (k H locs ls h1 h2 h3)
theorem r_ineg (C : Ctx E Z own cc ret nL d mc ms) {x : Int32} (hd : decode cc pc = .ok (.ineg, 1)) {pc' : Nat} (hp : pc + 1 = pc')  (k : Wm E Z cells slots S σ pc' lv (.int (-x) :: st)) : Wm E Z cells slots S σ pc lv (.int x :: st) := by
  subst hp
  obtain ⟨⟨p, e, s, m, args, below, meth, c⟩, R, nL', Q⟩ := Z
  obtain ⟨hx, hb, hr, hlocks, hml, rfl, rfl, hown, hts, hO, hbase⟩ := C
  exact fun H locs ls h1 h2 h3 => lv_ineg hx hb hd  (k H locs ls h1 h2 h3)
theorem r_ladd (C : Ctx E Z own cc ret nL d mc ms) {x y : Int64} (hd : decode cc pc = .ok (.ladd, 1)) {pc' : Nat} (hp : pc + 1 = pc')  (k : Wm E Z cells slots S σ pc' lv (.long (x + y) :: st)) : Wm E Z cells slots S σ pc lv (.long y :: .long x :: st) := by
  subst hp
  obtain ⟨⟨p, e, s, m, args, below, meth, c⟩, R, nL', Q⟩ := Z
  obtain ⟨hx, hb, hr, hlocks, hml, rfl, rfl, hown, hts, hO, hbase⟩ := C
  exact fun H locs ls h1 h2 h3 => lv_ladd hx hb hd  (k H locs ls h1 h2 h3)
theorem r_lsub (C : Ctx E Z own cc ret nL d mc ms) {x y : Int64} (hd : decode cc pc = .ok (.lsub, 1)) {pc' : Nat} (hp : pc + 1 = pc')  (k : Wm E Z cells slots S σ pc' lv (.long (x - y) :: st)) : Wm E Z cells slots S σ pc lv (.long y :: .long x :: st) := by
  subst hp
  obtain ⟨⟨p, e, s, m, args, below, meth, c⟩, R, nL', Q⟩ := Z
  obtain ⟨hx, hb, hr, hlocks, hml, rfl, rfl, hown, hts, hO, hbase⟩ := C
  exact fun H locs ls h1 h2 h3 => lv_lsub hx hb hd  (k H locs ls h1 h2 h3)
theorem r_lmul (C : Ctx E Z own cc ret nL d mc ms) {x y : Int64} (hd : decode cc pc = .ok (.lmul, 1)) {pc' : Nat} (hp : pc + 1 = pc')  (k : Wm E Z cells slots S σ pc' lv (.long (x * y) :: st)) : Wm E Z cells slots S σ pc lv (.long y :: .long x :: st) := by
  subst hp
  obtain ⟨⟨p, e, s, m, args, below, meth, c⟩, R, nL', Q⟩ := Z
  obtain ⟨hx, hb, hr, hlocks, hml, rfl, rfl, hown, hts, hO, hbase⟩ := C
  exact fun H locs ls h1 h2 h3 => lv_lmul hx hb hd  (k H locs ls h1 h2 h3)
theorem r_ldiv (C : Ctx E Z own cc ret nL d mc ms) {x y : Int64} (hd : decode cc pc = .ok (.ldiv, 1)) {pc' : Nat} (hp : pc + 1 = pc') (hne : ¬ y = 0) (k : Wm E Z cells slots S σ pc' lv (.long (x / y) :: st)) : Wm E Z cells slots S σ pc lv (.long y :: .long x :: st) := by
  subst hp
  obtain ⟨⟨p, e, s, m, args, below, meth, c⟩, R, nL', Q⟩ := Z
  obtain ⟨hx, hb, hr, hlocks, hml, rfl, rfl, hown, hts, hO, hbase⟩ := C
  exact fun H locs ls h1 h2 h3 => lv_ldiv hx hb hd hne (k H locs ls h1 h2 h3)
theorem r_lrem (C : Ctx E Z own cc ret nL d mc ms) {x y : Int64} (hd : decode cc pc = .ok (.lrem, 1)) {pc' : Nat} (hp : pc + 1 = pc') (hne : ¬ y = 0) (k : Wm E Z cells slots S σ pc' lv (.long (x - x / y * y) :: st)) : Wm E Z cells slots S σ pc lv (.long y :: .long x :: st) := by
  subst hp
  obtain ⟨⟨p, e, s, m, args, below, meth, c⟩, R, nL', Q⟩ := Z
  obtain ⟨hx, hb, hr, hlocks, hml, rfl, rfl, hown, hts, hO, hbase⟩ := C
  exact fun H locs ls h1 h2 h3 => lv_lrem hx hb hd hne (k H locs ls h1 h2 h3)
theorem r_lcmp (C : Ctx E Z own cc ret nL d mc ms) {x y : Int64} (hd : decode cc pc = .ok (.lcmp, 1)) {pc' : Nat} (hp : pc + 1 = pc')  (k : Wm E Z cells slots S σ pc' lv (.int (lg_cmp x y) :: st)) : Wm E Z cells slots S σ pc lv (.long y :: .long x :: st) := by
  subst hp
  obtain ⟨⟨p, e, s, m, args, below, meth, c⟩, R, nL', Q⟩ := Z
  obtain ⟨hx, hb, hr, hlocks, hml, rfl, rfl, hown, hts, hO, hbase⟩ := C
  exact fun H locs ls h1 h2 h3 => W.lcmp hx hb hd  (k H locs ls h1 h2 h3)
theorem r_i2l (C : Ctx E Z own cc ret nL d mc ms) {x : Int32} {v : Int64} (hd : decode cc pc = .ok (.i2l, 1)) {pc' : Nat} (hp : pc + 1 = pc') (hv : x.toInt64 = v) (k : Wm E Z cells slots S σ pc' lv (.long v :: st)) : Wm E Z cells slots S σ pc lv (.int x :: st) := by
  subst hp
  obtain ⟨⟨p, e, s, m, args, below, meth, c⟩, R, nL', Q⟩ := Z
  obtain ⟨hx, hb, hr, hlocks, hml, rfl, rfl, hown, hts, hO, hbase⟩ := C
  exact fun H locs ls h1 h2 h3 => lv_i2l hx hb hd hv (k H locs ls h1 h2 h3)
theorem r_i2b (C : Ctx E Z own cc ret nL d mc ms) {x v : Int32} (hd : decode cc pc = .ok (.i2b, 1)) {pc' : Nat} (hp : pc + 1 = pc') (hv : x.toInt8.toInt32 = v) (k : Wm E Z cells slots S σ pc' lv (.int v :: st)) : Wm E Z cells slots S σ pc lv (.int x :: st) := by
  subst hp
  obtain ⟨⟨p, e, s, m, args, below, meth, c⟩, R, nL', Q⟩ := Z
  obtain ⟨hx, hb, hr, hlocks, hml, rfl, rfl, hown, hts, hO, hbase⟩ := C
  exact fun H locs ls h1 h2 h3 => lv_i2b hx hb hd hv (k H locs ls h1 h2 h3)
theorem r_i2s (C : Ctx E Z own cc ret nL d mc ms) {x v : Int32} (hd : decode cc pc = .ok (.i2s, 1)) {pc' : Nat} (hp : pc + 1 = pc') (hv : x.toInt16.toInt32 = v) (k : Wm E Z cells slots S σ pc' lv (.int v :: st)) : Wm E Z cells slots S σ pc lv (.int x :: st) := by
  subst hp
  obtain ⟨⟨p, e, s, m, args, below, meth, c⟩, R, nL', Q⟩ := Z
  obtain ⟨hx, hb, hr, hlocks, hml, rfl, rfl, hown, hts, hO, hbase⟩ := C
  exact fun H locs ls h1 h2 h3 => lv_i2s hx hb hd hv (k H locs ls h1 h2 h3)
theorem r_i2c (C : Ctx E Z own cc ret nL d mc ms) {x v : Int32} (hd : decode cc pc = .ok (.i2c, 1)) {pc' : Nat} (hp : pc + 1 = pc') (hv : (x.toUInt32 % 65536).toInt32 = v) (k : Wm E Z cells slots S σ pc' lv (.int v :: st)) : Wm E Z cells slots S σ pc lv (.int x :: st) := by
  subst hp
  obtain ⟨⟨p, e, s, m, args, below, meth, c⟩, R, nL', Q⟩ := Z
  obtain ⟨hx, hb, hr, hlocks, hml, rfl, rfl, hown, hts, hO, hbase⟩ := C
  exact fun H locs ls h1 h2 h3 => lv_i2c hx hb hd hv (k H locs ls h1 h2 h3)
theorem r_dup (C : Ctx E Z own cc ret nL d mc ms) {v : Value} (hd : decode cc pc = .ok (.dup, 1)) {pc' : Nat} (hp : pc + 1 = pc') (hv : v.category = 1) (k : Wm E Z cells slots S σ pc' lv (v :: v :: st)) : Wm E Z cells slots S σ pc lv (v :: st) := by
  subst hp
  obtain ⟨⟨p, e, s, m, args, below, meth, c⟩, R, nL', Q⟩ := Z
  obtain ⟨hx, hb, hr, hlocks, hml, rfl, rfl, hown, hts, hO, hbase⟩ := C
  exact fun H locs ls h1 h2 h3 => lv_dup hx hb hd ((tr_cat E v).trans hv) (k H locs ls h1 h2 h3)
theorem r_pop (C : Ctx E Z own cc ret nL d mc ms) {v : Value} (hd : decode cc pc = .ok (.pop, 1)) {pc' : Nat} (hp : pc + 1 = pc') (hv : v.category = 1) (k : Wm E Z cells slots S σ pc' lv (st)) : Wm E Z cells slots S σ pc lv (v :: st) := by
  subst hp
  obtain ⟨⟨p, e, s, m, args, below, meth, c⟩, R, nL', Q⟩ := Z
  obtain ⟨hx, hb, hr, hlocks, hml, rfl, rfl, hown, hts, hO, hbase⟩ := C
  exact fun H locs ls h1 h2 h3 => lv_pop hx hb hd ((tr_cat E v).trans hv) (k H locs ls h1 h2 h3)
theorem r_dup2 (C : Ctx E Z own cc ret nL d mc ms) {v w : Value} (hd : decode cc pc = .ok (.dup2, 1)) {pc' : Nat} (hp : pc + 1 = pc') (hv : v.category = 1) (hw : w.category = 1) (k : Wm E Z cells slots S σ pc' lv (v :: w :: v :: w :: st)) : Wm E Z cells slots S σ pc lv (v :: w :: st) := by
  subst hp
  obtain ⟨⟨p, e, s, m, args, below, meth, c⟩, R, nL', Q⟩ := Z
  obtain ⟨hx, hb, hr, hlocks, hml, rfl, rfl, hown, hts, hO, hbase⟩ := C
  exact fun H locs ls h1 h2 h3 => lv_dup2_11 hx hb hd ((tr_cat E v).trans hv) ((tr_cat E w).trans hw) (k H locs ls h1 h2 h3)
theorem r_if_eq (C : Ctx E Z own cc ret nL d mc ms) {x : Int32} {off : Int} {tgt : Nat} (hd : decode cc pc = .ok (.ifCond .eq off, 3)) {pc' : Nat} (hp : pc + 3 = pc') (ht : (pc : Int) + off = (tgt : Int)) (kt : x = 0 → Wm E Z cells slots S σ tgt lv st) (kf : ¬ x = 0 → Wm E Z cells slots S σ pc' lv st) : Wm E Z cells slots S σ pc lv (.int x :: st) := by
  subst hp
  obtain ⟨⟨p, e, s, m, args, below, meth, c⟩, R, nL', Q⟩ := Z
  obtain ⟨hx, hb, hr, hlocks, hml, rfl, rfl, hown, hts, hO, hbase⟩ := C
  exact fun H locs ls h1 h2 h3 => lv_if_eq hx hb hd ht (fun q => kt q H locs ls h1 h2 h3) (fun q => kf q H locs ls h1 h2 h3)
theorem r_if_ne (C : Ctx E Z own cc ret nL d mc ms) {x : Int32} {off : Int} {tgt : Nat} (hd : decode cc pc = .ok (.ifCond .ne off, 3)) {pc' : Nat} (hp : pc + 3 = pc') (ht : (pc : Int) + off = (tgt : Int)) (kt : ¬ x = 0 → Wm E Z cells slots S σ tgt lv st) (kf : x = 0 → Wm E Z cells slots S σ pc' lv st) : Wm E Z cells slots S σ pc lv (.int x :: st) := by
  subst hp
  obtain ⟨⟨p, e, s, m, args, below, meth, c⟩, R, nL', Q⟩ := Z
  obtain ⟨hx, hb, hr, hlocks, hml, rfl, rfl, hown, hts, hO, hbase⟩ := C
  exact fun H locs ls h1 h2 h3 => lv_if_ne hx hb hd ht (fun q => kt q H locs ls h1 h2 h3) (fun q => kf q H locs ls h1 h2 h3)
theorem r_if_lt (C : Ctx E Z own cc ret nL d mc ms) {x : Int32} {off : Int} {tgt : Nat} (hd : decode cc pc = .ok (.ifCond .lt off, 3)) {pc' : Nat} (hp : pc + 3 = pc') (ht : (pc : Int) + off = (tgt : Int)) (kt : x < 0 → Wm E Z cells slots S σ tgt lv st) (kf : ¬ x < 0 → Wm E Z cells slots S σ pc' lv st) : Wm E Z cells slots S σ pc lv (.int x :: st) := by
  subst hp
  obtain ⟨⟨p, e, s, m, args, below, meth, c⟩, R, nL', Q⟩ := Z
  obtain ⟨hx, hb, hr, hlocks, hml, rfl, rfl, hown, hts, hO, hbase⟩ := C
  exact fun H locs ls h1 h2 h3 => lv_if_lt hx hb hd ht (fun q => kt q H locs ls h1 h2 h3) (fun q => kf q H locs ls h1 h2 h3)
theorem r_if_ge (C : Ctx E Z own cc ret nL d mc ms) {x : Int32} {off : Int} {tgt : Nat} (hd : decode cc pc = .ok (.ifCond .ge off, 3)) {pc' : Nat} (hp : pc + 3 = pc') (ht : (pc : Int) + off = (tgt : Int)) (kt : 0 ≤ x → Wm E Z cells slots S σ tgt lv st) (kf : ¬ 0 ≤ x → Wm E Z cells slots S σ pc' lv st) : Wm E Z cells slots S σ pc lv (.int x :: st) := by
  subst hp
  obtain ⟨⟨p, e, s, m, args, below, meth, c⟩, R, nL', Q⟩ := Z
  obtain ⟨hx, hb, hr, hlocks, hml, rfl, rfl, hown, hts, hO, hbase⟩ := C
  exact fun H locs ls h1 h2 h3 => lv_if_ge hx hb hd ht (fun q => kt q H locs ls h1 h2 h3) (fun q => kf q H locs ls h1 h2 h3)
theorem r_if_gt (C : Ctx E Z own cc ret nL d mc ms) {x : Int32} {off : Int} {tgt : Nat} (hd : decode cc pc = .ok (.ifCond .gt off, 3)) {pc' : Nat} (hp : pc + 3 = pc') (ht : (pc : Int) + off = (tgt : Int)) (kt : 0 < x → Wm E Z cells slots S σ tgt lv st) (kf : ¬ 0 < x → Wm E Z cells slots S σ pc' lv st) : Wm E Z cells slots S σ pc lv (.int x :: st) := by
  subst hp
  obtain ⟨⟨p, e, s, m, args, below, meth, c⟩, R, nL', Q⟩ := Z
  obtain ⟨hx, hb, hr, hlocks, hml, rfl, rfl, hown, hts, hO, hbase⟩ := C
  exact fun H locs ls h1 h2 h3 => lv_if_gt hx hb hd ht (fun q => kt q H locs ls h1 h2 h3) (fun q => kf q H locs ls h1 h2 h3)
theorem r_if_le (C : Ctx E Z own cc ret nL d mc ms) {x : Int32} {off : Int} {tgt : Nat} (hd : decode cc pc = .ok (.ifCond .le off, 3)) {pc' : Nat} (hp : pc + 3 = pc') (ht : (pc : Int) + off = (tgt : Int)) (kt : x ≤ 0 → Wm E Z cells slots S σ tgt lv st) (kf : ¬ x ≤ 0 → Wm E Z cells slots S σ pc' lv st) : Wm E Z cells slots S σ pc lv (.int x :: st) := by
  subst hp
  obtain ⟨⟨p, e, s, m, args, below, meth, c⟩, R, nL', Q⟩ := Z
  obtain ⟨hx, hb, hr, hlocks, hml, rfl, rfl, hown, hts, hO, hbase⟩ := C
  exact fun H locs ls h1 h2 h3 => lv_if_le hx hb hd ht (fun q => kt q H locs ls h1 h2 h3) (fun q => kf q H locs ls h1 h2 h3)
theorem r_icmp_eq (C : Ctx E Z own cc ret nL d mc ms) {x y : Int32} {off : Int} {tgt : Nat} (hd : decode cc pc = .ok (.if_icmp .eq off, 3)) {pc' : Nat} (hp : pc + 3 = pc') (ht : (pc : Int) + off = (tgt : Int)) (kt : x = y → Wm E Z cells slots S σ tgt lv st) (kf : ¬ x = y → Wm E Z cells slots S σ pc' lv st) : Wm E Z cells slots S σ pc lv (.int y :: .int x :: st) := by
  subst hp
  obtain ⟨⟨p, e, s, m, args, below, meth, c⟩, R, nL', Q⟩ := Z
  obtain ⟨hx, hb, hr, hlocks, hml, rfl, rfl, hown, hts, hO, hbase⟩ := C
  exact fun H locs ls h1 h2 h3 => lv_icmp_eq hx hb hd ht (fun q => kt q H locs ls h1 h2 h3) (fun q => kf q H locs ls h1 h2 h3)
theorem r_icmp_ne (C : Ctx E Z own cc ret nL d mc ms) {x y : Int32} {off : Int} {tgt : Nat} (hd : decode cc pc = .ok (.if_icmp .ne off, 3)) {pc' : Nat} (hp : pc + 3 = pc') (ht : (pc : Int) + off = (tgt : Int)) (kt : ¬ x = y → Wm E Z cells slots S σ tgt lv st) (kf : x = y → Wm E Z cells slots S σ pc' lv st) : Wm E Z cells slots S σ pc lv (.int y :: .int x :: st) := by
  subst hp
  obtain ⟨⟨p, e, s, m, args, below, meth, c⟩, R, nL', Q⟩ := Z
  obtain ⟨hx, hb, hr, hlocks, hml, rfl, rfl, hown, hts, hO, hbase⟩ := C
  exact fun H locs ls h1 h2 h3 => lv_icmp_ne hx hb hd ht (fun q => kt q H locs ls h1 h2 h3) (fun q => kf q H locs ls h1 h2 h3)
theorem r_icmp_lt (C : Ctx E Z own cc ret nL d mc ms) {x y : Int32} {off : Int} {tgt : Nat} (hd : decode cc pc = .ok (.if_icmp .lt off, 3)) {pc' : Nat} (hp : pc + 3 = pc') (ht : (pc : Int) + off = (tgt : Int)) (kt : x < y → Wm E Z cells slots S σ tgt lv st) (kf : ¬ x < y → Wm E Z cells slots S σ pc' lv st) : Wm E Z cells slots S σ pc lv (.int y :: .int x :: st) := by
  subst hp
  obtain ⟨⟨p, e, s, m, args, below, meth, c⟩, R, nL', Q⟩ := Z
  obtain ⟨hx, hb, hr, hlocks, hml, rfl, rfl, hown, hts, hO, hbase⟩ := C
  exact fun H locs ls h1 h2 h3 => lv_icmp_lt hx hb hd ht (fun q => kt q H locs ls h1 h2 h3) (fun q => kf q H locs ls h1 h2 h3)
theorem r_icmp_ge (C : Ctx E Z own cc ret nL d mc ms) {x y : Int32} {off : Int} {tgt : Nat} (hd : decode cc pc = .ok (.if_icmp .ge off, 3)) {pc' : Nat} (hp : pc + 3 = pc') (ht : (pc : Int) + off = (tgt : Int)) (kt : y ≤ x → Wm E Z cells slots S σ tgt lv st) (kf : ¬ y ≤ x → Wm E Z cells slots S σ pc' lv st) : Wm E Z cells slots S σ pc lv (.int y :: .int x :: st) := by
  subst hp
  obtain ⟨⟨p, e, s, m, args, below, meth, c⟩, R, nL', Q⟩ := Z
  obtain ⟨hx, hb, hr, hlocks, hml, rfl, rfl, hown, hts, hO, hbase⟩ := C
  exact fun H locs ls h1 h2 h3 => lv_icmp_ge hx hb hd ht (fun q => kt q H locs ls h1 h2 h3) (fun q => kf q H locs ls h1 h2 h3)
theorem r_icmp_gt (C : Ctx E Z own cc ret nL d mc ms) {x y : Int32} {off : Int} {tgt : Nat} (hd : decode cc pc = .ok (.if_icmp .gt off, 3)) {pc' : Nat} (hp : pc + 3 = pc') (ht : (pc : Int) + off = (tgt : Int)) (kt : y < x → Wm E Z cells slots S σ tgt lv st) (kf : ¬ y < x → Wm E Z cells slots S σ pc' lv st) : Wm E Z cells slots S σ pc lv (.int y :: .int x :: st) := by
  subst hp
  obtain ⟨⟨p, e, s, m, args, below, meth, c⟩, R, nL', Q⟩ := Z
  obtain ⟨hx, hb, hr, hlocks, hml, rfl, rfl, hown, hts, hO, hbase⟩ := C
  exact fun H locs ls h1 h2 h3 => lv_icmp_gt hx hb hd ht (fun q => kt q H locs ls h1 h2 h3) (fun q => kf q H locs ls h1 h2 h3)
theorem r_icmp_le (C : Ctx E Z own cc ret nL d mc ms) {x y : Int32} {off : Int} {tgt : Nat} (hd : decode cc pc = .ok (.if_icmp .le off, 3)) {pc' : Nat} (hp : pc + 3 = pc') (ht : (pc : Int) + off = (tgt : Int)) (kt : x ≤ y → Wm E Z cells slots S σ tgt lv st) (kf : ¬ x ≤ y → Wm E Z cells slots S σ pc' lv st) : Wm E Z cells slots S σ pc lv (.int y :: .int x :: st) := by
  subst hp
  obtain ⟨⟨p, e, s, m, args, below, meth, c⟩, R, nL', Q⟩ := Z
  obtain ⟨hx, hb, hr, hlocks, hml, rfl, rfl, hown, hts, hO, hbase⟩ := C
  exact fun H locs ls h1 h2 h3 => lv_icmp_le hx hb hd ht (fun q => kt q H locs ls h1 h2 h3) (fun q => kf q H locs ls h1 h2 h3)
theorem r_goto (C : Ctx E Z own cc ret nL d mc ms) {off : Int} {tgt : Nat} (hd : decode cc pc = .ok (.goto off, 3)) (ht : (pc : Int) + off = (tgt : Int)) (k : Wm E Z cells slots S σ tgt lv st) : Wm E Z cells slots S σ pc lv st := by
  obtain ⟨⟨p, e, s, m, args, below, meth, c⟩, R, nL', Q⟩ := Z
  obtain ⟨hx, hb, hr, hlocks, hml, rfl, rfl, hown, hts, hO, hbase⟩ := C
  exact fun H locs ls h1 h2 h3 => lv_goto hx hb hd ht (k H locs ls h1 h2 h3)
theorem r_tabIn (C : Ctx E Z own cc ret nL d mc ms) {dflt lo hi : Int} {offs : Array Int} {len : Nat} {x : Int32} {off : Int} {tgt : Nat} (hd : decode cc pc = .ok (.tableswitch dflt lo hi offs, len)) (q1 : ¬ x.toInt < lo) (q2 : ¬ hi < x.toInt) (ho : offs[(x.toInt - lo).toNat]? = some off) (ht : (pc : Int) + off = (tgt : Int)) (k : Wm E Z cells slots S σ tgt lv st) : Wm E Z cells slots S σ pc lv (.int x :: st) := by
  obtain ⟨⟨p, e, s, m, args, below, meth, c⟩, R, nL', Q⟩ := Z
  obtain ⟨hx, hb, hr, hlocks, hml, rfl, rfl, hown, hts, hO, hbase⟩ := C
  exact fun H locs ls h1 h2 h3 => lv_tableIn hx hb hd q1 q2 ho ht (k H locs ls h1 h2 h3)
theorem r_tabOut (C : Ctx E Z own cc ret nL d mc ms) {dflt lo hi : Int} {offs : Array Int} {len : Nat} {x : Int32} {tgt : Nat} (hd : decode cc pc = .ok (.tableswitch dflt lo hi offs, len)) (q : x.toInt < lo ∨ hi < x.toInt) (ht : (pc : Int) + dflt = (tgt : Int)) (k : Wm E Z cells slots S σ tgt lv st) : Wm E Z cells slots S σ pc lv (.int x :: st) := by
  obtain ⟨⟨p, e, s, m, args, below, meth, c⟩, R, nL', Q⟩ := Z
  obtain ⟨hx, hb, hr, hlocks, hml, rfl, rfl, hown, hts, hO, hbase⟩ := C
  exact fun H locs ls h1 h2 h3 => lv_tableOut hx hb hd q ht (k H locs ls h1 h2 h3)
theorem r_look (C : Ctx E Z own cc ret nL d mc ms) {dflt : Int} {ps : Array (Int × Int)} {len : Nat} {x : Int32} {off : Int} {tgt : Nat} (hd : decode cc pc = .ok (.lookupswitch dflt ps, len)) (hp : (ps.toList.zip (ps.toList.drop 1)).all (fun (a, next) => a.1 < next.1) = true) (ho : Op.lookupswitch.offset ps.toList dflt x.toInt = off) (ht : (pc : Int) + off = (tgt : Int)) (k : Wm E Z cells slots S σ tgt lv st) : Wm E Z cells slots S σ pc lv (.int x :: st) := by
  obtain ⟨⟨p, e, s, m, args, below, meth, c⟩, R, nL', Q⟩ := Z
  obtain ⟨hx, hb, hr, hlocks, hml, rfl, rfl, hown, hts, hO, hbase⟩ := C
  exact fun H locs ls h1 h2 h3 => lv_lookup hx hb hd hp ho ht (k H locs ls h1 h2 h3)
theorem r_ldc (C : Ctx E Z own cc ret nL d mc ms) {index : Nat} {v : Int32} (hw : Cond.constant own index v ∈ lw_good) (hd : decode cc pc = .ok (.ldc index, 2)) {pc' : Nat} (hp : pc + 2 = pc') (k : Wm E Z cells slots S σ pc' lv (.int v :: st)) : Wm E Z cells slots S σ pc lv st := by
  subst hp
  obtain ⟨⟨p, e, s, m, args, below, meth, c⟩, R, nL', Q⟩ := Z
  obtain ⟨hx, hb, hr, hlocks, hml, rfl, rfl, hown, hts, hO, hbase⟩ := C
  exact fun H locs ls h1 h2 h3 => lv_ldc hx hb hown (hts _ hw) hd (k H locs ls h1 h2 h3)
theorem r_ldcw (C : Ctx E Z own cc ret nL d mc ms) {index : Nat} {v : Int32} (hw : Cond.constant own index v ∈ lw_good) (hd : decode cc pc = .ok (.ldc_w index, 3)) {pc' : Nat} (hp : pc + 3 = pc') (k : Wm E Z cells slots S σ pc' lv (.int v :: st)) : Wm E Z cells slots S σ pc lv st := by
  subst hp
  obtain ⟨⟨p, e, s, m, args, below, meth, c⟩, R, nL', Q⟩ := Z
  obtain ⟨hx, hb, hr, hlocks, hml, rfl, rfl, hown, hts, hO, hbase⟩ := C
  exact fun H locs ls h1 h2 h3 => lv_ldcw hx hb hown (hts _ hw) hd (k H locs ls h1 h2 h3)
theorem r_ldc2 (C : Ctx E Z own cc ret nL d mc ms) {index : Nat} {v : Int64} (hw : Cond.constantLong own index v ∈ lw_good) (hd : decode cc pc = .ok (.ldc2_w index, 3)) {pc' : Nat} (hp : pc + 3 = pc') (k : Wm E Z cells slots S σ pc' lv (.long v :: st)) : Wm E Z cells slots S σ pc lv st := by
  subst hp
  obtain ⟨⟨p, e, s, m, args, below, meth, c⟩, R, nL', Q⟩ := Z
  obtain ⟨hx, hb, hr, hlocks, hml, rfl, rfl, hown, hts, hO, hbase⟩ := C
  exact fun H locs ls h1 h2 h3 => lv_ldc2 hx hb hown (hts _ hw) hd (k H locs ls h1 h2 h3)
/-- a field of a kind by a pool number: the words -/
def Fl (own : String) (idx ci j : Nat) : Prop := ∃ q : vw_C, vwCl[ci]? = some q ∧ j < q.2.2 ∧ (∀ w ∈ u_ws q.1 q.2.1 q.2.2, w ∈ lw_good) ∧ Cond.fieldLink own idx q.1 (q.2.1 j).2.1 (q.2.1 j).2.2.1 ∈ lw_good ∧ (q.2.1 j).1 = q.1
def Flp (own : String) (idx ci j : Nat) (ty : FieldType) (fin : Bool) : Prop := ∃ (q : vw_C) (tf : Nat → FieldType), vwCl[ci]? = some q ∧ j < q.2.2 ∧ (∀ w ∈ u_ws q.1 q.2.1 q.2.2, w ∈ lw_good) ∧ Cond.fieldLink own idx q.1 (q.2.1 j).2.1 (q.2.1 j).2.2.1 ∈ lw_good ∧ (q.2.1 j).1 = q.1 ∧ (∀ k, k < q.2.2 → parseFieldDescriptor (q.2.1 k).2.2.1 = some (tf k)) ∧ tf j = ty ∧ (∀ a, a < q.2.2 → ∀ b, b < q.2.2 → a ≠ b → (q.2.1 a).2.1 ≠ (q.2.1 b).2.1) ∧ (q.2.1 j).2.2.2 = fin
theorem r_getf (C : Ctx E Z own cc ret nL d mc ms) {idx ci j k : Nat} {fks : List FK} {fk : FK} {v : Value} (F : Fl own idx ci j) (hS : S[k]? = some (.inl (ci, fks))) (hj : fks[j]? = some fk) (hv : fa σ k j fk = v) (hd : decode cc pc = .ok (.getfield idx, 3)) {pc' : Nat} (hp : pc + 3 = pc') (kk : Wm E Z cells slots S σ pc' lv (v :: st)) : Wm E Z cells slots S σ pc lv (.ref k :: st) := by
  subst hp
  obtain ⟨⟨p, e, s, m, args, below, meth, c⟩, R, nL', Q⟩ := Z
  obtain ⟨hx, hb, hr, hlocks, hml, rfl, rfl, hown, hts, hO, hbase⟩ := C
  obtain ⟨q, hq, hjn, hin, hl, hs⟩ := F
  subst hv
  intro H locs ls h1 h2 h3
  have h1' := h1
  obtain ⟨cA, tys, hK, hP, hT, hlen, hbs⟩ := h1
  refine va_get (T := q.2.1) (C := q.1) (N := q.2.2) (ref := q.1) hx hb hts hin hown hK hP k (ws_at hS) hq j hjn (hts _ hl) (fun x hx => by rw [hs] at hx; exact hx) (v := tr E (fa σ k j fk)) ?_ hd (kk H locs ls h1' h2 h3)
  rw [List.getElem?_mapIdx, hj]
  rfl
theorem r_getI (C : Ctx E Z own cc ret nL d mc ms) {idx ci j k : Nat} {fks : List FK} (F : Fl own idx ci j) (hS : S[k]? = some (.inl (ci, fks))) (hj : fks[j]? = some none) (hd : decode cc pc = .ok (.getfield idx, 3)) {pc' : Nat} (hp : pc + 3 = pc') (kk : Wm E Z cells slots S σ pc' lv (.int (gi σ k j) :: st)) : Wm E Z cells slots S σ pc lv (.ref k :: st) := r_getf C F hS hj rfl hd hp kk
theorem r_getR (C : Ctx E Z own cc ret nL d mc ms) {idx ci j k t : Nat} {fks : List FK} (F : Fl own idx ci j) (hS : S[k]? = some (.inl (ci, fks))) (hj : fks[j]? = some (some (some (some t)))) (hd : decode cc pc = .ok (.getfield idx, 3)) {pc' : Nat} (hp : pc + 3 = pc') (kk : Wm E Z cells slots S σ pc' lv (.ref t :: st)) : Wm E Z cells slots S σ pc lv (.ref k :: st) := r_getf C F hS hj rfl hd hp kk
theorem r_getD (C : Ctx E Z own cc ret nL d mc ms) {idx ci j k : Nat} {fks : List FK} (F : Fl own idx ci j) (hS : S[k]? = some (.inl (ci, fks))) (hj : fks[j]? = some (some (some none))) (hd : decode cc pc = .ok (.getfield idx, 3)) {pc' : Nat} (hp : pc + 3 = pc') (kk : Wm E Z cells slots S σ pc' lv (.ref (gi σ k j).toNatClampNeg :: st)) : Wm E Z cells slots S σ pc lv (.ref k :: st) := r_getf C F hS hj rfl hd hp kk
theorem mapIdx_set {α β : Type} {l l2 : List α} {f g : Nat → α → β} {j : Nat} {v : β} {x0 : α} (hl : l2 = l.set j x0) (hj : j < l.length) (hv : g j x0 = v) (ho : ∀ i x, i ≠ j → l[i]? = some x → g i x = f i x) : (l.mapIdx f).set j v = l2.mapIdx g := by
  subst hl
  apply List.ext_getElem?
  intro i
  by_cases hi : i = j
  · subst hi
    rw [List.getElem?_set_self (by simpa using hj), List.getElem?_mapIdx, List.getElem?_set_self hj]
    simp [hv]
  · rw [List.getElem?_set_ne (by omega), List.getElem?_mapIdx, List.getElem?_mapIdx, List.getElem?_set_ne (by omega)]
    cases hy : l[i]? with
    | none => rfl
    | some y => simp [ho i y hi hy]
/-- behind a write of a cell -/
theorem HR_put {U : State} {S' : List Sh} {σ' : Sg} {H1 : Heap} {cA : Nat → ClassId} {tys : List (ClassId × FieldType)} {k : Nat} {x x' : Sh} {e : va_E} (hK : va_K E.2.1 vwCl tys U) (hT : ∀ (k : Nat) (x : Sh) (ty : FieldType), S[k]? = some x → tyS x = some ty → ∃ t0 : Nat, tys[t0]? = some (cA k, ty)) (hlen : adN E S.length) (hbs : E.2.2.2 ≤ H1.size) (hx : S[k]? = some x) (hS : S' = S.set k x') (hty : tyS x' = tyS x) (he : ent E cA σ' k x' = e) (ho : ∀ j, j ≠ k → gi σ' j = gi σ j ∧ gl σ' j = gl σ j) (hP : va_P E.2.1 vwCl ((wsO E cA σ S).set k (ad E k, e)) H1) : HR E S' σ' U H1 := by
  have hk := lt_of_get hx
  rw [ws_set hk hS he (fun j hj y _ => ent_congr (ho j hj).1 (ho j hj).2 y)] at hP
  refine ⟨cA, tys, hK, hP, ?_, by rw [hS, List.length_set]; exact hlen, hbs⟩
  intro j y ty hy hty2
  rw [hS] at hy
  by_cases hj : j = k
  · subst hj
    rw [List.getElem?_set_self hk] at hy
    obtain rfl := Option.some.inj hy
    exact hT j x ty hx (by rw [← hty]; exact hty2)
  · rw [List.getElem?_set_ne (by omega)] at hy
    exact hT j y ty hy hty2
theorem r_putI (C : Ctx E Z own cc ret nL d mc ms) {idx ci j k : Nat} {fks : List FK} {ty : FieldType} {x : Int32} (F : Flp own idx ci j ty false) (hS : S[k]? = some (.inl (ci, fks))) (hj : fks[j]? = some none) (hn : narrow ty (.int x) = .int x) (hfit : fits ty (.int x) = true) (hd : decode cc pc = .ok (.putfield idx, 3)) {pc' : Nat} (hp : pc + 3 = pc') {σ1 : Sg} (hσ : σ1 = wi σ k j x) (kk : Wm E Z cells slots S σ1 pc' lv st) : Wm E Z cells slots S σ pc lv (.int x :: .ref k :: st) := by
  subst hp
  subst hσ
  obtain ⟨⟨p, e, s, m, args, below, meth, c⟩, R, nL', Q⟩ := Z
  obtain ⟨hx, hb, hr, hlocks, hml, rfl, rfl, hown, hts, hO, hbase⟩ := C
  obtain ⟨q, tf, hq, hjn, hin, hl, hs, htf, rfl, hnm, hfin⟩ := F
  intro H locs ls h1 h2 h3
  obtain ⟨cA, tys, hK, hP, hT, hlen, hbs⟩ := h1
  refine va_put (T := q.2.1) (C := q.1) (N := q.2.2) (ref := q.1) hx hb hts hin tf htf hnm hown hK hP (ws_D hlen) h2 k (ws_at hS) hq j hjn (hts _ hl) (fun x hx => by rw [hs] at hx; exact hx) hfin (htf j hjn) hn hfit (by simpa using lt_of_get hj) hd (fun H1 locs1 g1 g2 g3 => kk H1 locs1 ls ?_ g3 h3)
  refine HR_put (σ := σ) hK hT hlen (Nat.le_trans hbase g3.1) hS (S' := S) (x' := .inl (ci, fks)) (set_self hS).symm rfl ?_ (fun i hi => ⟨gi_wi_ne hi, rfl⟩) g1
  show (Sum.inr (ci, fks.mapIdx (fun i y => tr E (fa (wi σ k j x) k i y))) : va_E) = Sum.inr (ci, _)
  rw [mapIdx_set (l2 := fks) (x0 := none) (g := fun i y => tr E (fa (wi σ k j x) k i y)) (set_self hj).symm (lt_of_get hj)]
  · show Value.int (gi (wi σ k j x) k j) = _
    rw [gi_wi]
    show Value.int (if j = j then x else _) = _
    rw [if_pos rfl]
    rfl
  · intro i y hi _
    rw [fa_congr (σ := σ) (σ' := wi σ k j x)]
    rw [gi_wi]
    exact if_neg hi
theorem r_putD (C : Ctx E Z own cc ret nL d mc ms) {idx ci j k : Nat} {fks : List FK} {Cn : String} {x : Int32} (F : Flp own idx ci j (.object Cn) false) (hS : S[k]? = some (.inl (ci, fks))) (hj : fks[j]? = some (some (some none))) (hd : decode cc pc = .ok (.putfield idx, 3)) {pc' : Nat} (hp : pc + 3 = pc') {σ1 : Sg} (hσ : σ1 = wi σ k j x) (kk : Wm E Z cells slots S σ1 pc' lv st) : Wm E Z cells slots S σ pc lv (.ref x.toNatClampNeg :: .ref k :: st) := by
  subst hp
  subst hσ
  obtain ⟨⟨p, e, s, m, args, below, meth, c⟩, R, nL', Q⟩ := Z
  obtain ⟨hx, hb, hr, hlocks, hml, rfl, rfl, hown, hts, hO, hbase⟩ := C
  obtain ⟨q, tf, hq, hjn, hin, hl, hs, htf, hty, hnm, hfin⟩ := F
  intro H locs ls h1 h2 h3
  obtain ⟨cA, tys, hK, hP, hT, hlen, hbs⟩ := h1
  refine va_put (T := q.2.1) (C := q.1) (N := q.2.2) (ref := q.1) hx hb hts hin tf htf hnm hown hK hP (ws_D hlen) h2 k (ws_at hS) hq j hjn (hts _ hl) (fun x hx => by rw [hs] at hx; exact hx) hfin (htf j hjn) (by rw [hty]; rfl) (by rw [hty]; rfl) (by simpa using lt_of_get hj) hd (fun H1 locs1 g1 g2 g3 => kk H1 locs1 ls ?_ g3 h3)
  refine HR_put (σ := σ) hK hT hlen (Nat.le_trans hbase g3.1) hS (S' := S) (x' := .inl (ci, fks)) (set_self hS).symm rfl ?_ (fun i hi => ⟨gi_wi_ne hi, rfl⟩) g1
  show (Sum.inr (ci, fks.mapIdx (fun i y => tr E (fa (wi σ k j x) k i y))) : va_E) = Sum.inr (ci, _)
  rw [mapIdx_set (l2 := fks) (x0 := some (some none)) (g := fun i y => tr E (fa (wi σ k j x) k i y)) (set_self hj).symm (lt_of_get hj)]
  · show Value.ref (ad E (gi (wi σ k j x) k j).toNatClampNeg) = Value.ref (ad E x.toNatClampNeg)
    rw [gi_wi]
    show Value.ref (ad E (if j = j then x else _).toNatClampNeg) = _
    rw [if_pos rfl]
  · intro i y hi _
    rw [fa_congr (σ := σ) (σ' := wi σ k j x)]
    rw [gi_wi]
    exact if_neg hi
theorem r_iald (C : Ctx E Z own cc ret nL d mc ms) {k n : Nat} {i : Int32} (hS : S[k]? = some (.inr (.inl (.int, n)))) (hi : vp_in i n) (hd : decode cc pc = .ok (.iaload, 1)) {pc' : Nat} (hp : pc + 1 = pc') (kk : Wm E Z cells slots S σ pc' lv (.int (gi σ k i.toNatClampNeg) :: st)) : Wm E Z cells slots S σ pc lv (.int i :: .ref k :: st) := by
  subst hp
  obtain ⟨⟨p, e, s, m, args, below, meth, c⟩, R, nL', Q⟩ := Z
  obtain ⟨hx, hb, hr, hlocks, hml, rfl, rfl, hown, hts, hO, hbase⟩ := C
  intro H locs ls h1 h2 h3
  have h1' := h1
  obtain ⟨cA, tys, hK, hP, hT, hlen, hbs⟩ := h1
  obtain ⟨t0, ht0⟩ := hT k _ _ hS rfl
  exact va_iald hx hb hK hP k t0 (ws_at hS) ht0 hi hd (kk H locs ls h1' h2 h3)
theorem r_cald (C : Ctx E Z own cc ret nL d mc ms) {k n : Nat} {i : Int32} (hS : S[k]? = some (.inr (.inl (.char, n)))) (hi : vp_in i n) (hd : decode cc pc = .ok (.caload, 1)) {pc' : Nat} (hp : pc + 1 = pc') (kk : Wm E Z cells slots S σ pc' lv (.int (gi σ k i.toNatClampNeg) :: st)) : Wm E Z cells slots S σ pc lv (.int i :: .ref k :: st) := by
  subst hp
  obtain ⟨⟨p, e, s, m, args, below, meth, c⟩, R, nL', Q⟩ := Z
  obtain ⟨hx, hb, hr, hlocks, hml, rfl, rfl, hown, hts, hO, hbase⟩ := C
  intro H locs ls h1 h2 h3
  have h1' := h1
  obtain ⟨cA, tys, hK, hP, hT, hlen, hbs⟩ := h1
  obtain ⟨t0, ht0⟩ := hT k _ _ hS rfl
  exact va_cald hx hb hK hP k t0 (ws_at hS) ht0 hi hd (kk H locs ls h1' h2 h3)
theorem r_zald (C : Ctx E Z own cc ret nL d mc ms) {k n : Nat} {i : Int32} (hS : S[k]? = some (.inr (.inl (.boolean, n)))) (hi : vp_in i n) (hd : decode cc pc = .ok (.baload, 1)) {pc' : Nat} (hp : pc + 1 = pc') (kk : Wm E Z cells slots S σ pc' lv (.int (gi σ k i.toNatClampNeg) :: st)) : Wm E Z cells slots S σ pc lv (.int i :: .ref k :: st) := by
  subst hp
  obtain ⟨⟨p, e, s, m, args, below, meth, c⟩, R, nL', Q⟩ := Z
  obtain ⟨hx, hb, hr, hlocks, hml, rfl, rfl, hown, hts, hO, hbase⟩ := C
  intro H locs ls h1 h2 h3
  have h1' := h1
  obtain ⟨cA, tys, hK, hP, hT, hlen, hbs⟩ := h1
  obtain ⟨t0, ht0⟩ := hT k _ _ hS rfl
  exact va_zald hx hb hK hP k t0 (ws_at hS) ht0 hi hd (kk H locs ls h1' h2 h3)
theorem r_lald (C : Ctx E Z own cc ret nL d mc ms) {k n : Nat} {i : Int32} (hS : S[k]? = some (.inr (.inr (.inl n)))) (hi : vp_in i n) (hd : decode cc pc = .ok (.laload, 1)) {pc' : Nat} (hp : pc + 1 = pc') (kk : Wm E Z cells slots S σ pc' lv (.long (gl σ k i.toNatClampNeg) :: st)) : Wm E Z cells slots S σ pc lv (.int i :: .ref k :: st) := by
  subst hp
  obtain ⟨⟨p, e, s, m, args, below, meth, c⟩, R, nL', Q⟩ := Z
  obtain ⟨hx, hb, hr, hlocks, hml, rfl, rfl, hown, hts, hO, hbase⟩ := C
  intro H locs ls h1 h2 h3
  have h1' := h1
  obtain ⟨cA, tys, hK, hP, hT, hlen, hbs⟩ := h1
  obtain ⟨t0, ht0⟩ := hT k _ _ hS rfl
  exact va_lald hx hb hK hP k t0 (ws_at hS) ht0 hi hd (kk H locs ls h1' h2 h3)
theorem r_iast (C : Ctx E Z own cc ret nL d mc ms) {k n : Nat} {i x : Int32} (hS : S[k]? = some (.inr (.inl (.int, n)))) (hi : vp_in i n) (hd : decode cc pc = .ok (.iastore, 1)) {pc' : Nat} (hp : pc + 1 = pc') {σ1 : Sg} (hσ : σ1 = wi σ k i.toNatClampNeg (x)) (kk : Wm E Z cells slots S σ1 pc' lv st) : Wm E Z cells slots S σ pc lv (.int x :: .int i :: .ref k :: st) := by
  subst hp
  subst hσ
  obtain ⟨⟨p, e, s, m, args, below, meth, c⟩, R, nL', Q⟩ := Z
  obtain ⟨hx, hb, hr, hlocks, hml, rfl, rfl, hown, hts, hO, hbase⟩ := C
  intro H locs ls h1 h2 h3
  obtain ⟨cA, tys, hK, hP, hT, hlen, hbs⟩ := h1
  obtain ⟨t0, ht0⟩ := hT k _ _ hS rfl
  refine va_iast hx hb hK hP (ws_D hlen) h2 k t0 (ws_at hS) ht0 hi hd (fun H1 locs1 g1 g2 g3 => kk H1 locs1 ls ?_ g3 h3)
  refine HR_put (σ := σ) hK hT hlen (Nat.le_trans hbase g3.1) hS (S' := S) (x' := .inr (.inl (.int, n))) (set_self hS).symm rfl ?_ (fun i hi => ⟨gi_wi_ne hi, rfl⟩) g1
  show (Sum.inl (cA k, n, Sum.inl (gi (wi σ k i.toNatClampNeg (x)) k)) : va_E) = _
  rw [gi_wi]
theorem r_cast (C : Ctx E Z own cc ret nL d mc ms) {k n : Nat} {i x : Int32} (hS : S[k]? = some (.inr (.inl (.char, n)))) (hi : vp_in i n) (hd : decode cc pc = .ok (.castore, 1)) {pc' : Nat} (hp : pc + 1 = pc') {σ1 : Sg} (hσ : σ1 = wi σ k i.toNatClampNeg (vp_nar .char x)) (kk : Wm E Z cells slots S σ1 pc' lv st) : Wm E Z cells slots S σ pc lv (.int x :: .int i :: .ref k :: st) := by
  subst hp
  subst hσ
  obtain ⟨⟨p, e, s, m, args, below, meth, c⟩, R, nL', Q⟩ := Z
  obtain ⟨hx, hb, hr, hlocks, hml, rfl, rfl, hown, hts, hO, hbase⟩ := C
  intro H locs ls h1 h2 h3
  obtain ⟨cA, tys, hK, hP, hT, hlen, hbs⟩ := h1
  obtain ⟨t0, ht0⟩ := hT k _ _ hS rfl
  refine va_cast hx hb hK hP (ws_D hlen) h2 k t0 (ws_at hS) ht0 hi hd (fun H1 locs1 g1 g2 g3 => kk H1 locs1 ls ?_ g3 h3)
  refine HR_put (σ := σ) hK hT hlen (Nat.le_trans hbase g3.1) hS (S' := S) (x' := .inr (.inl (.char, n))) (set_self hS).symm rfl ?_ (fun i hi => ⟨gi_wi_ne hi, rfl⟩) g1
  show (Sum.inl (cA k, n, Sum.inl (gi (wi σ k i.toNatClampNeg (vp_nar .char x)) k)) : va_E) = _
  rw [gi_wi]
theorem r_zast (C : Ctx E Z own cc ret nL d mc ms) {k n : Nat} {i x : Int32} (hS : S[k]? = some (.inr (.inl (.boolean, n)))) (hi : vp_in i n) (hd : decode cc pc = .ok (.bastore, 1)) {pc' : Nat} (hp : pc + 1 = pc') {σ1 : Sg} (hσ : σ1 = wi σ k i.toNatClampNeg (vp_nar .boolean x)) (kk : Wm E Z cells slots S σ1 pc' lv st) : Wm E Z cells slots S σ pc lv (.int x :: .int i :: .ref k :: st) := by
  subst hp
  subst hσ
  obtain ⟨⟨p, e, s, m, args, below, meth, c⟩, R, nL', Q⟩ := Z
  obtain ⟨hx, hb, hr, hlocks, hml, rfl, rfl, hown, hts, hO, hbase⟩ := C
  intro H locs ls h1 h2 h3
  obtain ⟨cA, tys, hK, hP, hT, hlen, hbs⟩ := h1
  obtain ⟨t0, ht0⟩ := hT k _ _ hS rfl
  refine va_zast hx hb hK hP (ws_D hlen) h2 k t0 (ws_at hS) ht0 hi hd (fun H1 locs1 g1 g2 g3 => kk H1 locs1 ls ?_ g3 h3)
  refine HR_put (σ := σ) hK hT hlen (Nat.le_trans hbase g3.1) hS (S' := S) (x' := .inr (.inl (.boolean, n))) (set_self hS).symm rfl ?_ (fun i hi => ⟨gi_wi_ne hi, rfl⟩) g1
  show (Sum.inl (cA k, n, Sum.inl (gi (wi σ k i.toNatClampNeg (vp_nar .boolean x)) k)) : va_E) = _
  rw [gi_wi]
theorem r_last (C : Ctx E Z own cc ret nL d mc ms) {k n : Nat} {i : Int32} {x : Int64} (hS : S[k]? = some (.inr (.inr (.inl n)))) (hi : vp_in i n) (hd : decode cc pc = .ok (.lastore, 1)) {pc' : Nat} (hp : pc + 1 = pc') {σ1 : Sg} (hσ : σ1 = wl σ k i.toNatClampNeg x) (kk : Wm E Z cells slots S σ1 pc' lv st) : Wm E Z cells slots S σ pc lv (.long x :: .int i :: .ref k :: st) := by
  subst hp
  subst hσ
  obtain ⟨⟨p, e, s, m, args, below, meth, c⟩, R, nL', Q⟩ := Z
  obtain ⟨hx, hb, hr, hlocks, hml, rfl, rfl, hown, hts, hO, hbase⟩ := C
  intro H locs ls h1 h2 h3
  obtain ⟨cA, tys, hK, hP, hT, hlen, hbs⟩ := h1
  obtain ⟨t0, ht0⟩ := hT k _ _ hS rfl
  refine va_last hx hb hK hP (ws_D hlen) h2 k t0 (ws_at hS) ht0 hi hd (fun H1 locs1 g1 g2 g3 => kk H1 locs1 ls ?_ g3 h3)
  refine HR_put (σ := σ) hK hT hlen (Nat.le_trans hbase g3.1) hS (S' := S) (x' := .inr (.inr (.inl n))) (set_self hS).symm rfl ?_ (fun i hi => ⟨rfl, gl_wl_ne hi⟩) g1
  show (Sum.inl (cA k, n, Sum.inr (Sum.inl (gl (wl σ k i.toNatClampNeg x) k))) : va_E) = _
  rw [gl_wl]
theorem r_aald (C : Ctx E Z own cc ret nL d mc ms) {k t : Nat} {l : List (Option Nat)} {Cn : String} {i : Int32} (hS : S[k]? = some (.inr (.inr (.inr (.object Cn, l))))) (hi : vp_in i l.length) (ht : l.getD i.toNatClampNeg none = some t) (hd : decode cc pc = .ok (.aaload, 1)) {pc' : Nat} (hp : pc + 1 = pc') (kk : Wm E Z cells slots S σ pc' lv (.ref t :: st)) : Wm E Z cells slots S σ pc lv (.int i :: .ref k :: st) := by
  subst hp
  obtain ⟨⟨p, e, s, m, args, below, meth, c⟩, R, nL', Q⟩ := Z
  obtain ⟨hx, hb, hr, hlocks, hml, rfl, rfl, hown, hts, hO, hbase⟩ := C
  intro H locs ls h1 h2 h3
  have h1' := h1
  obtain ⟨cA, tys, hK, hP, hT, hlen, hbs⟩ := h1
  obtain ⟨t0, ht0⟩ := hT k _ _ hS rfl
  refine va_aldq hx hb hK hP k t0 (ws_at hS) ht0 hi hd ?_
  rw [ht]
  exact kk H locs ls h1' h2 h3
theorem r_aaldA (C : Ctx E Z own cc ret nL d mc ms) {k t : Nat} {l : List (Option Nat)} {i : Int32} (hS : S[k]? = some (.inr (.inr (.inr (.array .int, l))))) (hi : vp_in i l.length) (ht : l.getD i.toNatClampNeg none = some t) (hd : decode cc pc = .ok (.aaload, 1)) {pc' : Nat} (hp : pc + 1 = pc') (kk : Wm E Z cells slots S σ pc' lv (.ref t :: st)) : Wm E Z cells slots S σ pc lv (.int i :: .ref k :: st) := by
  subst hp
  obtain ⟨⟨p, e, s, m, args, below, meth, c⟩, R, nL', Q⟩ := Z
  obtain ⟨hx, hb, hr, hlocks, hml, rfl, rfl, hown, hts, hO, hbase⟩ := C
  intro H locs ls h1 h2 h3
  have h1' := h1
  obtain ⟨cA, tys, hK, hP, hT, hlen, hbs⟩ := h1
  obtain ⟨t0, ht0⟩ := hT k _ _ hS rfl
  have hlt : i.toNatClampNeg < l.length := Nat.not_le.mp fun q => hi (Or.inr q)
  have hc := hP k _ (ws_at hS)
  refine W.aald (v := va_rf ((l.getD i.toNatClampNeg none).map (ad E))) (ty := .array .int) hx hb hc ((hK.2 t0 _ ht0).1 l.length (fun j => va_rf ((l.getD j none).map (ad E)))) rfl (fun q => by cases q) (by show ¬ (i < 0 ∨ (arrV _ _ _).slots.size ≤ _); rw [arrV_size]; exact hi) (by show (arrV _ _ _).slots[_]? = _; rw [arrV_read _ _ hlt]) rfl rfl hd ?_
  rw [ht]
  exact kk H locs ls h1' h2 h3
theorem r_alen (C : Ctx E Z own cc ret nL d mc ms) {k : Nat} {x : Sh} {ty : FieldType} {v : Int32} (hS : S[k]? = some x) (hty : tyS x = some ty) (hv : (match x with | .inl _ => (0 : Int32) | .inr (.inl a) => Int32.ofNat a.2 | .inr (.inr (.inl n)) => Int32.ofNat n | .inr (.inr (.inr a)) => Int32.ofNat a.2.length) = v) (hd : decode cc pc = .ok (.arraylength, 1)) {pc' : Nat} (hp : pc + 1 = pc') (kk : Wm E Z cells slots S σ pc' lv (.int v :: st)) : Wm E Z cells slots S σ pc lv (.ref k :: st) := by
  subst hp
  obtain ⟨⟨p, e, s, m, args, below, meth, c⟩, R, nL', Q⟩ := Z
  obtain ⟨hx, hb, hr, hlocks, hml, rfl, rfl, hown, hts, hO, hbase⟩ := C
  intro H locs ls h1 h2 h3
  have h1' := h1
  obtain ⟨cA, tys, hK, hP, hT, hlen, hbs⟩ := h1
  obtain ⟨t0, ht0⟩ := hT k x ty hS hty
  match x, hS, hty, hv with
  | .inr (.inl a), hS, hty, hv => exact va_alen hx hb hK hP k t0 (ws_at hS) ht0 hv hd (kk H locs ls h1' h2 h3)
  | .inr (.inr (.inl n)), hS, hty, hv => exact va_alen hx hb hK hP k t0 (ws_at hS) ht0 hv hd (kk H locs ls h1' h2 h3)
  | .inr (.inr (.inr a)), hS, hty, hv => exact va_alen hx hb hK hP k t0 (ws_at hS) ht0 hv hd (kk H locs ls h1' h2 h3)
theorem r_oldC (C : Ctx E Z own cc ret nL d mc ms) {k : Nat} {l : List Int32} {i x : Int32} (hS : oT k = some (.char, l)) (hi : vp_in i l.length) (hv : l.getD i.toNatClampNeg 0 = x) (hd : decode cc pc = .ok (.caload, 1)) {pc' : Nat} (hp : pc + 1 = pc') (kk : Wm E Z cells slots S σ pc' lv (.int x :: st)) : Wm E Z cells slots S σ pc lv (.int i :: .ref k :: st) := by
  subst hp
  obtain ⟨⟨p, e, s, m, args, below, meth, c⟩, R, nL', Q⟩ := Z
  obtain ⟨hx, hb, hr, hlocks, hml, rfl, rfl, hown, hts, hO, hbase⟩ := C
  exact fun H locs ls h1 h2 h3 => va_tc hx hb (hO.1 k _ hS).2 h2 hi (v := .int x) (by show Value.int (l.getD i.toNatClampNeg 0) = _; rw [hv]) hd (kk H locs ls h1 h2 h3)
theorem r_oldI (C : Ctx E Z own cc ret nL d mc ms) {k : Nat} {l : List Int32} {i x : Int32} (hS : oT k = some (.int, l)) (hi : vp_in i l.length) (hv : l.getD i.toNatClampNeg 0 = x) (hd : decode cc pc = .ok (.iaload, 1)) {pc' : Nat} (hp : pc + 1 = pc') (kk : Wm E Z cells slots S σ pc' lv (.int x :: st)) : Wm E Z cells slots S σ pc lv (.int i :: .ref k :: st) := by
  subst hp
  obtain ⟨⟨p, e, s, m, args, below, meth, c⟩, R, nL', Q⟩ := Z
  obtain ⟨hx, hb, hr, hlocks, hml, rfl, rfl, hown, hts, hO, hbase⟩ := C
  exact fun H locs ls h1 h2 h3 => va_ti hx hb (hO.1 k _ hS).2 h2 hi (v := .int x) (by show Value.int (l.getD i.toNatClampNeg 0) = _; rw [hv]) hd (kk H locs ls h1 h2 h3)
theorem r_oldL (C : Ctx E Z own cc ret nL d mc ms) {k : Nat} {a : FieldType × List Int32} {v : Int32} (hS : oT k = some a) (hv : Int32.ofNat a.2.length = v) (hd : decode cc pc = .ok (.arraylength, 1)) {pc' : Nat} (hp : pc + 1 = pc') (kk : Wm E Z cells slots S σ pc' lv (.int v :: st)) : Wm E Z cells slots S σ pc lv (.ref k :: st) := by
  subst hp
  obtain ⟨⟨p, e, s, m, args, below, meth, c⟩, R, nL', Q⟩ := Z
  obtain ⟨hx, hb, hr, hlocks, hml, rfl, rfl, hown, hts, hO, hbase⟩ := C
  exact fun H locs ls h1 h2 h3 => va_tlen hx hb (hO.1 k _ hS).2 h2 hv hd (kk H locs ls h1 h2 h3)
theorem r_gets (C : Ctx E Z own cc ret nL d mc ms) {k idx : Nat} {a : FieldType × List Int32} (hS : oT k = some a) (hl : Cond.fieldLink own idx (oN k).1 (oN k).2.1 (oN k).2.2 ∈ lw_good) (hd : decode cc pc = .ok (.getstatic idx, 3)) {pc' : Nat} (hp : pc + 3 = pc') (kk : Wm E Z cells slots S σ pc' lv (.ref k :: st)) : Wm E Z cells slots S σ pc lv st := by
  subst hp
  obtain ⟨⟨p, e, s, m, args, below, meth, c⟩, R, nL', Q⟩ := Z
  obtain ⟨hx, hb, hr, hlocks, hml, rfl, rfl, hown, hts, hO, hbase⟩ := C
  exact fun H locs ls h1 h2 h3 => va_gets hx hb (hO.1 k _ hS).1 h2 hown (hts _ hl) (fun _ h => h) hd (kk H locs ls h1 h2 h3)
theorem r_getsN (C : Ctx E Z own cc ret nL d mc ms) {k idx : Nat} {a : FieldType × List Int32} {host : String} (hS : oT k = some a) (hl : Cond.fieldLinkNest own idx (oN k).1 (oN k).2.1 (oN k).2.2 host ∈ lw_nest) (hd : decode cc pc = .ok (.getstatic idx, 3)) {pc' : Nat} (hp : pc + 3 = pc') (kk : Wm E Z cells slots S σ pc' lv (.ref k :: st)) : Wm E Z cells slots S σ pc lv st := by
  subst hp
  obtain ⟨⟨p, e, s, m, args, below, meth, c⟩, R, nL', Q⟩ := Z
  obtain ⟨hx, hb, hr, hlocks, hml, rfl, rfl, hown, hts, hO, hbase⟩ := C
  exact fun H locs ls h1 h2 h3 => va_getsN hx hb (hO.1 k _ hS).1 h2 hown (va_Nw.use rfl (hO.2.2.2.2 _ hl)) (fun _ h => h) hd (kk H locs ls h1 h2 h3)
theorem q_end {E : Ev} {S : List Sh} {σ : Sg} {rv : Option Value} {a : Array Value} {s t : State} {H : Heap} {locs : List Loc} (h1 : HR E S σ s H) (h2 : va_S (AE E) s.heap H locs) (ht : t.heap = H) (hW : s.WarmedH t.vm) : QcE E S σ rv a s (.returned (rv.map (tr E))) t := ⟨rfl, by rw [ht]; exact h1.moved hW.alike, h2.F ht⟩
theorem r_ret {ty : FieldType} {x : Int32} (C : Ctx E Z own cc (some ty) nL d mc ms) (hn : narrow ty (.int x) = .int x) (hd : decode cc pc = .ok (.ireturn, 1)) (hE : En E Z S σ (some (.int x)) cells slots) : Wm E Z cells slots S σ pc lv [.int x] := by
  obtain ⟨⟨p, e, s, m, args, below, meth, c⟩, R, nL', Q⟩ := Z
  obtain ⟨hx, hb, hr, hlocks, hml, rfl, rfl, hown, hts, hO, hbase⟩ := C
  have hE : Q = _ := hE
  subst hE
  exact fun H locs ls h1 h2 h3 => W.zret hx hb hr hn (fun t ht hW => q_end (rv := some (.int x)) h1 h2 ht hW) h2.2.2 hd hlocks
theorem r_lret {x : Int64} (C : Ctx E Z own cc (some .long) nL d mc ms) (hd : decode cc pc = .ok (.lreturn, 1)) (hE : En E Z S σ (some (.long x)) cells slots) : Wm E Z cells slots S σ pc lv [.long x] := by
  obtain ⟨⟨p, e, s, m, args, below, meth, c⟩, R, nL', Q⟩ := Z
  obtain ⟨hx, hb, hr, hlocks, hml, rfl, rfl, hown, hts, hO, hbase⟩ := C
  have hE : Q = _ := hE
  subst hE
  exact fun H locs ls h1 h2 h3 => W.lret hx hb hr (fun t ht hW => q_end (rv := some (.long x)) h1 h2 ht hW) h2.2.2 hd hlocks
theorem r_vret (C : Ctx E Z own cc none nL d mc ms) (hd : decode cc pc = .ok (.return_, 1)) (hE : En E Z S σ none cells slots) : Wm E Z cells slots S σ pc lv [] := by
  obtain ⟨⟨p, e, s, m, args, below, meth, c⟩, R, nL', Q⟩ := Z
  obtain ⟨hx, hb, hr, hlocks, hml, rfl, rfl, hown, hts, hO, hbase⟩ := C
  have hE : Q = _ := hE
  subst hE
  exact fun H locs ls h1 h2 h3 => W.vret hx hb hr (fun t ht hW => q_end (rv := none) h1 h2 ht hW) h2.2.2 hd hlocks
end Rules
