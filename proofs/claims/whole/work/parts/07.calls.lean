/-! ===== contracts and calls ===== -/
def Cm (E : Ev) (d : Nat) (y : MethodName) (cc : ByteArray) (nL : Nat) (ret : Option FieldType) (av : List Value) (S S' : List Sh) (σ σ' : Sg) (rv : Option Value) (mc ms : Nat) : Prop :=
  Met E.1 y (Cond.code y cc nL ret :: lw_good) (rmD d mc ms) (fun a U => a = (av.map (tr E)).toArray ∧ HR E S σ U U.heap ∧ OL E U U.heap) (QcE E S' σ' rv) mc ms (AE E)
theorem lv_args_tr (E : Ev) : ∀ (vs : List Value) (i : Nat), lv_args i (vs.map (tr E)) = (lv_args i vs).map (fun q => (q.1, tr E q.2))
  | [], _ => rfl
  | v :: t, i => by
    have ih := lv_args_tr E t
    simp only [List.map_cons, lv_args, tr_cat]
    split <;> simp [ih]
theorem lg_sl_tr (E : Ev) : ∀ (vs : List Value), (lg_sl (vs.map (tr E))).length = (lg_sl vs).length
  | [] => rfl
  | v :: t => by
    have ih := lg_sl_tr E t
    cases v <;> simp_all [lg_sl, tr, Value.category]
theorem Cm.intro {E : Ev} {d : Nat} {y : MethodName} {cc : ByteArray} {nL : Nat} {ret : Option FieldType} {av : List Value} {S S' : List Sh} {σ σ' : Sg} {rv : Option Value} {mc ms : Nat} (hy : plainFor y = true) (hn : (lg_sl av).length ≤ nL) (hb0 : ∀ U : State, HR E S σ U U.heap → E.2.2.2 ≤ U.heap.size := fun U h => by obtain ⟨_, _, _, _, _, _, h⟩ := h; exact h)
    (h : ∀ Z : Zx, Ctx E Z y.cls cc ret nL d mc ms → En E Z S' σ' rv mc ms → Wm E Z 0 0 S σ 0 (lv_args 0 av) []) : Cm E d y cc nL ret av S S' σ σ' rv mc ms := by
  refine va_MetF (cc := cc) (maxL := nL) (ret := ret) hy rfl ?_
  intro p e s m args below meth c s₁ B hml hv
  obtain ⟨rfl, hH, hO⟩ := hv
  have hts := atoms_spec (ws := Cond.code y cc nL ret :: lw_good) B.pre
  have hown : s.vm.findClass y.cls = some m.cls := findClass_of_methodNamed B.named
  have k := h ((p, e, s, m, (av.map (tr E)).toArray, below, meth, c), rmD d mc ms, nL, MQ below (QcE E S' σ' rv) (av.map (tr E)).toArray s mc ms (AE E)) ⟨B.exec, B.bytes, B.returns, B.notSynchronized, hml, rfl, rfl, hown, fun w hw => hts w (List.mem_cons_of_mem _ hw), hO, hb0 s hH⟩ rfl
  rw [lg_entry_eq]
  refine k s.heap [] _ hH va_S.rf ?_
  rw [← lv_args_tr]
  exact lv_entry (av.map (tr E)) (by rw [lg_sl_tr]; exact hn)
/-- what a callee's words say -/
def Ce (y : MethodName) (bytes : ByteArray) (maxL : Nat) (ret : Option FieldType) (n : Nat) : Prop := Cond.initialized y.cls ∈ lw_good ∧ Cond.code y bytes maxL ret ∈ lw_good ∧ (y.cls ≠ "java/lang/invoke/MethodHandle" ∧ y.cls ≠ "java/lang/invoke/VarHandle" ∧ (parseMethodDescriptor y.desc).map (fun d => d.parameters.length) = some n) ∧ maxL ≤ 40
def CeV (y : MethodName) : Prop := Cond.instanceMethod y ∈ lw_good ∧ Cond.selects y.cls y y ∈ lw_good
def CeS (y : MethodName) : Prop := Cond.static y ∈ lw_good
theorem cw_good {y : MethodName} {bytes : ByteArray} {maxL : Nat} {ret : Option FieldType} (h : Cond.code y bytes maxL ret ∈ lw_good) : GoodIn lw_good (Cond.code y bytes maxL ret :: lw_good) := fun w hw => (List.mem_cons.mp hw).elim (fun e => by rw [e]; exact good_all _ h) (fun hw => good_all w hw)
section Calls
variable {E : Ev} {Z : Zx} {own : String} {cc : ByteArray} {ret : Option FieldType} {nL d mc ms cells slots : Nat} {S S' : List Sh} {σ σ' : Sg} {pc : Nat} {lv : List (Nat × Value)} {st stk : List Value}
variable {idx d' n maxL mc' ms' : Nat} {y : MethodName} {bytes : ByteArray} {ret' : Option FieldType} {b ci : Nat} {As : List Value} {rv : Option Value} {q : vw_C} {fks : List FK}
theorem c_room (h : d' + 1 ≤ d) (hm : maxL ≤ 40) : (rmD d' mc' ms').frames + 1 ≤ (rmD d mc ms).frames ∧ 8 + (maxL + 11) + (rmD d' mc' ms').locals ≤ (rmD d mc ms).locals := by
  constructor
  · show d' + 1 + 1 ≤ d + 1
    omega
  · show 8 + (maxL + 11) + 64 * (d' + 1) ≤ 64 * (d + 1)
    omega
theorem c_cat (E : Ev) (st : List Value) : ((st.map (tr E)).map fun v => v.category) = st.map fun v => v.category := by
  rw [List.map_map]
  apply List.map_congr_left
  intro v _
  exact tr_cat E v
theorem c_pre {s U : State} {H : Heap} {locs : List Loc} (h1 : HR E S σ s H) (h2 : va_S (AE E) s.heap H locs) (hO : OL E s s.heap) (hU : U.heap = H) (hW : s.WarmedH U.vm) : HR E S σ U U.heap ∧ OL E U U.heap := by
  subst hU
  exact ⟨h1.moved hW.alike, (hO.kept (fun a h3 h4 => h2.2.1 a h3 h4)).warm hW⟩
theorem c_back {p : Program} {e : Env} {s : State} {m : MethodId} {args : Array Value} {below : List Frame} {meth : Method} {c : Code} {R : Room} {nL : Nat} {Q : State → Prop} {H : Heap} {locs : List Loc} {ls : Array Slot} {a : Array Value} {g : JFrame}
    (hg : g = F0 m pc ls (stk.map (tr E))) (hr : va_Run p E.1 e R s m args below meth c H locs cells slots mc' ms' g (st.map (tr E)) (QcE E S' σ' rv a) (AE E)) (hbase : E.2.2.2 ≤ s.heap.size)
    (h2 : va_S (AE E) s.heap H locs) (h3 : lv_has ls nL (lv.map (fun q => (q.1, tr E q.2)))) (kk : Wm E ((p, e, s, m, args, below, meth, c), R, nL, Q) (cells + mc') (slots + ms') S' σ' (pc + 3) lv (rv.toList ++ st)) : W p E.1 e R s m args below meth c H locs cells slots Q (F0 m pc ls (stk.map (tr E))) := by
  subst hg
  intro T hT X
  obtain ⟨v, st₀, t, T', L, h0, X', hL, e1, e2, ⟨hv, hH, hz, hk⟩, st1⟩ := hr T hT X
  obtain rfl : v = rv.map (tr E) := by injection hv
  rw [h0] at hz hk
  have hH' : HR E S' σ' s T'.heap := by
    rw [e1]
    exact hH.moved (by rw [← e2]; exact X'.warmed.alike.symm)
  obtain ⟨t2, a1, b1⟩ := kk T'.heap (locs ++ L) ls hH' ⟨Nat.le_trans h2.1 (by rw [e1]; exact hz), fun q g1 g2 => by rw [e1, hk q (Nat.lt_of_lt_of_le g1 h2.1) g2]; exact h2.2.1 q g1 g2, fun q hq => (List.mem_append.mp hq).elim (fun h => h2.2.2 q h) (fun h => hL q h)⟩ h3 T' rfl X'
  refine ⟨t2, st1 t2 ?_, b1⟩
  have : (rv.toList ++ st).map (tr E) = (rv.map (tr E)).toList ++ st.map (tr E) := by cases rv <;> rfl
  rw [this] at a1
  exact a1
theorem r_callV (C : Ctx E Z own cc ret nL d mc ms) (hM : Cm E d' y bytes maxL ret' (.ref b :: As) S S' σ σ' rv mc' ms') (hl : Cond.methodLink own idx y ∈ lw_good) (hc : Ce y bytes maxL ret' n) (hv : CeV y) (hS : S[b]? = some (.inl (ci, fks))) (hq : vwCl[ci]? = some q) (hqc : q.1 = y.cls) (hn : As.length = n) (hdd : d' + 1 ≤ d) (hst : stk = As.reverse ++ .ref b :: st) (hW : (st.map fun v => v.category).sum ≤ 8) (hf : cells + mc' ≤ mc ∧ slots + ms' ≤ ms) (hd : decode cc pc = .ok (.invokevirtual idx, 3)) {pc' : Nat} (hp : pc + 3 = pc')
    (kk : Wm E Z (cells + mc') (slots + ms') S' σ' pc' lv (rv.toList ++ st)) : Wm E Z cells slots S σ pc lv stk := by
  subst hp
  obtain ⟨⟨p, e, s, m, args, below, meth, c⟩, R, nL', Q⟩ := Z
  obtain ⟨hx, hb, hr, hlocks, hml, rfl, rfl, hown, hts, hO, hbase⟩ := C
  obtain ⟨c1, c2, c3, c4⟩ := hc
  intro H locs ls h1 h2 h3
  have h1' := h1
  obtain ⟨cA, tys, hK, hP, hT, hlen, hbs⟩ := h1
  have hrec := va_recv hK hP hq (ws_at hS)
  rw [hqc] at hrec
  refine c_back (H := H) (locs := locs) (a := (Value.ref (ad E b) :: As.map (tr E)).toArray) rfl (va_runV (As := As.map (tr E)) (C := y.cls) (b := ad E b) ⟨hx, hb, hml, hown, hts⟩ hM (cwV n hts ?_ rfl rfl rfl ⟨rfl, c3⟩ (c_room hdd c4)) ⟨?_, hrec, ?_⟩ rfl (by rw [List.length_map]; exact hn) h3.1 ?_ ?_ hd hf) hbase h2 h3 kk
  · intro w hw
    rcases List.mem_append.mp hw with hw | hw
    · simp only [List.mem_cons, List.not_mem_nil, or_false] at hw
      rcases hw with rfl | rfl | rfl | rfl
      · exact good_all _ hl
      · exact good_all _ hv.1
      · exact good_all _ hv.2
      · exact good_all _ c1
    · exact cw_good c2 w hw
  · intro a U g mk hq
    exact ⟨hq.1, hq.2.1.moved (u := U) (U := U.calling g mk a) (Vm.Alike.refl U.vm), hq.2.2.same (u := U) (U := U.calling g mk a) rfl⟩
  · intro U hU hW
    exact ⟨rfl, c_pre h1' h2 hO hU hW⟩
  · show stk.map (tr E) = _
    rw [hst]
    simp [tr]
  · show 2 * 0 + ((st.map (tr E)).map fun v => v.category).sum ≤ 8
    rw [c_cat]
    omega
theorem r_callS (C : Ctx E Z own cc ret nL d mc ms) (hM : Cm E d' y bytes maxL ret' As S S' σ σ' rv mc' ms') (hl : Cond.methodLink own idx y ∈ lw_good) (hc : Ce y bytes maxL ret' n) (hv : CeS y) (hn : As.length = n) (hdd : d' + 1 ≤ d) (hst : stk = As.reverse ++ st) (hW : (st.map fun v => v.category).sum ≤ 8) (hf : cells + mc' ≤ mc ∧ slots + ms' ≤ ms) (hd : decode cc pc = .ok (.invokestatic idx, 3)) {pc' : Nat} (hp : pc + 3 = pc')
    (kk : Wm E Z (cells + mc') (slots + ms') S' σ' pc' lv (rv.toList ++ st)) : Wm E Z cells slots S σ pc lv stk := by
  subst hp
  obtain ⟨⟨p, e, s, m, args, below, meth, c⟩, R, nL', Q⟩ := Z
  obtain ⟨hx, hb, hr, hlocks, hml, rfl, rfl, hown, hts, hO, hbase⟩ := C
  obtain ⟨c1, c2, c3, c4⟩ := hc
  intro H locs ls h1 h2 h3
  refine c_back (H := H) (locs := locs) (a := (As.map (tr E)).toArray) rfl (va_runS (As := As.map (tr E)) ⟨hx, hb, hml, hown, hts⟩ hM ⟨callB_of n hts (cw_good c2) rfl rfl rfl (hts _ c1) (hts _ hl) c3 (c_room hdd c4), hts _ hv⟩ ⟨?_, ?_⟩ rfl (by rw [List.length_map]; exact hn) h3.1 ?_ ?_ hd hf) hbase h2 h3 kk
  · intro a U g mk hq
    exact ⟨hq.1, hq.2.1.moved (u := U) (U := U.calling g mk a) (Vm.Alike.refl U.vm), hq.2.2.same (u := U) (U := U.calling g mk a) rfl⟩
  · intro U hU hW
    exact ⟨rfl, c_pre h1 h2 hO hU hW⟩
  · show stk.map (tr E) = _
    rw [hst]
    simp
  · show 2 * 0 + ((st.map (tr E)).map fun v => v.category).sum ≤ 8
    rw [c_cat]
    omega
theorem r_cV1 {v : Value} (C : Ctx E Z own cc ret nL d mc ms) (hM : Cm E d' y bytes maxL ret' (.ref b :: As) S S σ σ' (some v) 0 0) (hl : Cond.methodLink own idx y ∈ lw_good) (hc : Ce y bytes maxL ret' n) (hv : CeV y) (hS : S[b]? = some (.inl (ci, fks))) (hq : vwCl[ci]? = some q) (hqc : q.1 = y.cls) (hn : As.length = n) (hdd : d' + 1 ≤ d) (hst : stk = As.reverse ++ .ref b :: st) (hW : (st.map fun v => v.category).sum ≤ 8) (hd : decode cc pc = .ok (.invokevirtual idx, 3)) {pc' : Nat} (hp : pc + 3 = pc') (hf : cells ≤ mc ∧ slots ≤ ms := by exact ⟨Nat.zero_le _, Nat.zero_le _⟩)
    (kk : Wm E Z cells slots S σ' pc' lv (v :: st)) : Wm E Z cells slots S σ pc lv stk := r_callV C hM hl hc hv hS hq hqc hn hdd hst hW hf hd hp kk
theorem r_cV0 (C : Ctx E Z own cc ret nL d mc ms) (hM : Cm E d' y bytes maxL ret' (.ref b :: As) S S σ σ' none 0 0) (hl : Cond.methodLink own idx y ∈ lw_good) (hc : Ce y bytes maxL ret' n) (hv : CeV y) (hS : S[b]? = some (.inl (ci, fks))) (hq : vwCl[ci]? = some q) (hqc : q.1 = y.cls) (hn : As.length = n) (hdd : d' + 1 ≤ d) (hst : stk = As.reverse ++ .ref b :: st) (hW : (st.map fun v => v.category).sum ≤ 8) (hd : decode cc pc = .ok (.invokevirtual idx, 3)) {pc' : Nat} (hp : pc + 3 = pc') (hf : cells ≤ mc ∧ slots ≤ ms := by exact ⟨Nat.zero_le _, Nat.zero_le _⟩)
    (kk : Wm E Z cells slots S σ' pc' lv st) : Wm E Z cells slots S σ pc lv stk := r_callV C hM hl hc hv hS hq hqc hn hdd hst hW hf hd hp kk
theorem r_cS1 {v : Value} (C : Ctx E Z own cc ret nL d mc ms) (hM : Cm E d' y bytes maxL ret' As S S σ σ' (some v) 0 0) (hl : Cond.methodLink own idx y ∈ lw_good) (hc : Ce y bytes maxL ret' n) (hv : CeS y) (hn : As.length = n) (hdd : d' + 1 ≤ d) (hst : stk = As.reverse ++ st) (hW : (st.map fun v => v.category).sum ≤ 8) (hd : decode cc pc = .ok (.invokestatic idx, 3)) {pc' : Nat} (hp : pc + 3 = pc') (hf : cells ≤ mc ∧ slots ≤ ms := by exact ⟨Nat.zero_le _, Nat.zero_le _⟩)
    (kk : Wm E Z cells slots S σ' pc' lv (v :: st)) : Wm E Z cells slots S σ pc lv stk := r_callS C hM hl hc hv hn hdd hst hW hf hd hp kk
theorem r_cS0 (C : Ctx E Z own cc ret nL d mc ms) (hM : Cm E d' y bytes maxL ret' As S S σ σ' none 0 0) (hl : Cond.methodLink own idx y ∈ lw_good) (hc : Ce y bytes maxL ret' n) (hv : CeS y) (hn : As.length = n) (hdd : d' + 1 ≤ d) (hst : stk = As.reverse ++ st) (hW : (st.map fun v => v.category).sum ≤ 8) (hd : decode cc pc = .ok (.invokestatic idx, 3)) {pc' : Nat} (hp : pc + 3 = pc') (hf : cells ≤ mc ∧ slots ≤ ms := by exact ⟨Nat.zero_le _, Nat.zero_le _⟩)
    (kk : Wm E Z cells slots S σ' pc' lv st) : Wm E Z cells slots S σ pc lv stk := r_callS C hM hl hc hv hn hdd hst hW hf hd hp kk
end Calls
/-- a walk that ends with the answer rv and the store σe -/
abbrev Gp (E : Ev) (own : String) (cc : ByteArray) (ret : Option FieldType) (nL d : Nat) (S : List Sh) (σe : Sg) (rv : Option Value) (σ : Sg) (pc : Nat) (lv : List (Nat × Value)) (st : List Value) : Prop := ∀ Z : Zx, Ctx E Z own cc ret nL d 0 0 → En E Z S σe rv 0 0 → Wm E Z 0 0 S σ pc lv st
def bnS {α : Type} (s : Sg) (f : Sg → α) : α := f s
def inb (i : Int32) (n : Nat) : Bool := decide (0 ≤ i) && decide (i.toNatClampNeg < n)
def isB (x : Int32) : Bool := decide (x = 0) || decide (x = 1)
def isC (x : Int32) : Bool := decide (0 ≤ x) && decide (x ≤ 65535)
def ushr (x y : Int32) : Int32 := (x.toUInt32 >>> (y.toUInt32 &&& Int32.toUInt32 31)).toInt32
def i2b_ (x : Int32) : Int32 := x.toInt8.toInt32
def i2s_ (x : Int32) : Int32 := x.toInt16.toInt32
def i2c_ (x : Int32) : Int32 := (x.toUInt32 % 65536).toInt32
theorem ck {α : Type} {b : Bool} {A : Option α} {r : α} (h : (if b = true then A else none) = some r) : b = true ∧ A = some r := by
  cases b with
  | true => exact ⟨rfl, h⟩
  | false => cases h
theorem ck0 {α : Type} {y : Int32} {A : Option α} {r : α} (h : (if y = 0 then none else A) = some r) : ¬ y = 0 ∧ A = some r := by
  by_cases hy : y = 0
  · rw [if_pos hy] at h
    cases h
  · rw [if_neg hy] at h
    exact ⟨hy, h⟩
theorem ckl {α : Type} {y : Int64} {A : Option α} {r : α} (h : (if y = 0 then none else A) = some r) : ¬ y = 0 ∧ A = some r := by
  by_cases hy : y = 0
  · rw [if_pos hy] at h
    cases h
  · rw [if_neg hy] at h
    exact ⟨hy, h⟩
theorem bd {α β : Type} {x : Option α} {f : α → Option β} {r : β} (h : x.bind f = some r) : ∃ a, x = some a ∧ f a = some r := by
  cases x with
  | none => cases h
  | some a => exact ⟨a, rfl, h⟩
theorem bs {β : Type} {x : Sg} {f : Sg → Option β} {r : β} (h : bnS x f = some r) : ∃ y, y = x ∧ f y = some r := ⟨x, rfl, h⟩
theorem vin {i : Int32} {n : Nat} (h : inb i n = true) : vp_in i n := by
  unfold inb at h
  simp only [Bool.and_eq_true, decide_eq_true_eq] at h
  intro q
  rcases q with q | q
  · exact absurd h.1 (Int32.not_le.mpr q)
  · omega
theorem nisB {x : Int32} (h : isB x = true) : narrow .boolean (.int x) = .int x := by
  unfold isB at h
  simp only [Bool.or_eq_true, decide_eq_true_eq] at h
  rcases h with rfl | rfl <;> rfl
theorem fisB {x : Int32} (h : isB x = true) : fits .boolean (.int x) = true := by
  unfold isB at h
  simp only [Bool.or_eq_true, decide_eq_true_eq] at h
  rcases h with rfl | rfl <;> rfl
theorem nisC {x : Int32} (h : isC x = true) : narrow .char (.int x) = .int x := by
  unfold isC at h
  simp only [Bool.and_eq_true, decide_eq_true_eq] at h
  obtain ⟨j, hj, rfl⟩ := nI_of2 (M := 65535) (n := 65535) rfl (fun q => absurd h.1 (Int32.not_le.mpr q)) h.2
  exact (pk_charN (by omega)).1
theorem tab_out {x : Int32} {lo hi : Int} (h : ∀ k : Int, lo ≤ k → k ≤ hi → x ≠ Int32.ofInt k) (h1 : -2147483648 ≤ lo) (h2 : hi < 2147483648) : x.toInt < lo ∨ hi < x.toInt := by
  by_cases q1 : x.toInt < lo
  · exact Or.inl q1
  · by_cases q2 : hi < x.toInt
    · exact Or.inr q2
    · exact absurd (Int32.ofInt_toInt x).symm (h x.toInt (by omega) (by omega))
theorem look_out {l : List (Int × Int)} {dflt : Int} {x : Int32} (h : ∀ q ∈ l, x ≠ Int32.ofInt q.1) : Op.lookupswitch.offset l dflt x.toInt = dflt := by
  induction l with
  | nil => rfl
  | cons a t ih =>
    obtain ⟨k, o⟩ := a
    rw [Op.lookupswitch.offset_cons, if_neg]
    · exact ih (fun q hq => h q (List.mem_cons_of_mem _ hq))
    · intro e
      exact h (k, o) List.mem_cons_self (by show x = Int32.ofInt k; rw [e, Int32.ofInt_toInt])
theorem kI {b : Nat} {x : Int32} {k : Int32} {P : Int32 → Prop} (h : x = k) (q : P k) : P x := h ▸ q
