/-! ===== contracts and calls ===== -/
def Cm (E : Ev) (d : Nat) (y : MethodName) (cc : ByteArray) (nL : Nat) (ret : Option FieldType) (av : List Value) (S S' : List Sh) (σ σ' : Sg) (rv : Option Value) (mc ms : Nat) : Prop :=
  Met E.1 y (Cond.code y cc nL ret :: lw_good) (rmD d mc ms) (fun a U => a = (av.map (tr E)).toArray ∧ HR E S σ U U.heap ∧ OL E U U.heap) (QcE E S' σ' rv) mc ms (AE E)
theorem lv_args_tr (E : Ev) : ∀ (vs : List Value) (i : Nat), lv_args i (vs.map (tr E)) = (lv_args i vs).map (fun q => (q.1, tr E q.2))
  | [], _ => rfl
  | v :: t, i => by
    have ih := lv_args_tr E t
    simp only [List.map_cons, lv_args, tr_cat]
    split <;> simp [ih]
theorem lg_sl_tr (E : Ev) : ∀ (vs : List Value), (lg_sl (vs.map (tr E))).length = (lg_sl vs).length
  | [] => rfl
  | v :: t => by
    have ih := lg_sl_tr E t
    cases v <;> simp_all [lg_sl, tr, Value.category]
theorem Cm.intro {E : Ev} {d : Nat} {y : MethodName} {cc : ByteArray} {nL : Nat} {ret : Option FieldType} {av : List Value} {S S' : List Sh} {σ σ' : Sg} {rv : Option Value} {mc ms : Nat} (hy : plainName y.cls = true) (hn : (lg_sl av).length ≤ nL) (hb0 : ∀ U : State, HR E S σ U U.heap → E.2.2.2 ≤ U.heap.size := fun U h => by obtain ⟨_, _, _, _, _, _, h⟩ := h; exact h)
    (h : ∀ Z : Zx, Ctx E Z y.cls cc ret nL d mc ms → En E Z S' σ' rv mc ms → Wm E Z 0 0 S σ 0 (lv_args 0 av) []) : Cm E d y cc nL ret av S S' σ σ' rv mc ms := by
  refine Met.ofW (cc := cc) (maxL := nL) (ret := ret) hy rfl ?_
  intro p e s m args below meth c s₁ B hml hv
  obtain ⟨rfl, hH, hO⟩ := hv
  have hts := atoms_spec (ws := Cond.code y cc nL ret :: lw_good) B.pre
  have hown : s.vm.findClass y.cls = some m.cls := findClass_of_methodNamed B.named
  have k := h ((p, e, s, m, (av.map (tr E)).toArray, below, meth, c), rmD d mc ms, nL, MQ below (QcE E S' σ' rv) (av.map (tr E)).toArray s mc ms (AE E)) ⟨B.exec, B.bytes, B.returns, B.notSynchronized, hml, rfl, rfl, hown, fun w hw => hts w (List.mem_cons_of_mem _ hw), hO, hb0 s hH⟩ rfl
  rw [lg_entry_eq]
  refine k s.heap [] _ hH va_S.rf ?_
  rw [← lv_args_tr]
  exact lv_entry (av.map (tr E)) (by rw [lg_sl_tr]; exact hn)
/-- what a callee's words say -/
def Ce (y : MethodName) (bytes : ByteArray) (maxL : Nat) (ret : Option FieldType) (n : Nat) : Prop := Cond.initialized y.cls ∈ lw_good ∧ Cond.code y bytes maxL ret ∈ lw_good ∧ (y.cls ≠ "java/lang/invoke/MethodHandle" ∧ y.cls ≠ "java/lang/invoke/VarHandle" ∧ (parseMethodDescriptor y.desc).map (fun d => d.parameters.length) = some n) ∧ maxL ≤ 40
def CeV (y : MethodName) : Prop := Cond.instanceMethod y ∈ lw_good ∧ Cond.selects y.cls y y ∈ lw_good
def CeS (y : MethodName) : Prop := Cond.static y ∈ lw_good
theorem cw_good {y : MethodName} {bytes : ByteArray} {maxL : Nat} {ret : Option FieldType} (h : Cond.code y bytes maxL ret ∈ lw_good) : GoodIn lw_good (Cond.code y bytes maxL ret :: lw_good) := fun w hw => (List.mem_cons.mp hw).elim (fun e => by rw [e]; exact good_all _ h) (fun hw => good_all w hw)
section Calls
variable {E : Ev} {Z : Zx} {own : String} {cc : ByteArray} {ret : Option FieldType} {nL d mc ms cells slots : Nat} {S S' : List Sh} {σ σ' : Sg} {pc : Nat} {lv : List (Nat × Value)} {st stk : List Value}
variable {idx d' n maxL mc' ms' : Nat} {y : MethodName} {bytes : ByteArray} {ret' : Option FieldType} {b ci : Nat} {As : List Value} {rv : Option Value} {q : vw_C} {fks : List FK}
theorem c_room (h : d' + 1 ≤ d) (hm : maxL ≤ 40) : (rmD d' mc' ms').frames + 1 ≤ (rmD d mc ms).frames ∧ 8 + (maxL + 11) + (rmD d' mc' ms').locals ≤ (rmD d mc ms).locals := by
  constructor
  · show d' + 1 + 1 ≤ d + 1
    omega
  · show 8 + (maxL + 11) + 64 * (d' + 1) ≤ 64 * (d + 1)
    omega
theorem c_cat (E : Ev) (st : List Value) : ((st.map (tr E)).map fun v => v.category) = st.map fun v => v.category := by
  rw [List.map_map]
  apply List.map_congr_left
  intro v _
  exact tr_cat E v
theorem c_pre {s U : State} {H : Heap} {locs : List Loc} (h1 : HR E S σ s H) (h2 : va_S (AE E) s.heap H locs) (hO : OL E s s.heap) (hU : U.heap = H) (hW : s.WarmedH U.vm) : HR E S σ U U.heap ∧ OL E U U.heap := by
  subst hU
  exact ⟨h1.moved hW.alike, (hO.kept (fun a h3 h4 => h2.2.1 a h3 h4)).moved hW.alike⟩
theorem c_back {p : Program} {e : Env} {s : State} {m : MethodId} {args : Array Value} {below : List Frame} {meth : Method} {c : Code} {R : Room} {nL : Nat} {Q : State → Prop} {H : Heap} {locs : List Loc} {ls : Array Slot} {a : Array Value} {g : JFrame}
    (hg : g = F0 m pc ls (stk.map (tr E))) (hr : va_Run p E.1 e R s m args below meth c H locs cells slots mc' ms' g (st.map (tr E)) (QcE E S' σ' rv a) (AE E)) (hbase : E.2.2.2 ≤ s.heap.size)
    (h2 : va_S (AE E) s.heap H locs) (h3 : lv_has ls nL (lv.map (fun q => (q.1, tr E q.2)))) (kk : Wm E ((p, e, s, m, args, below, meth, c), R, nL, Q) (cells + mc') (slots + ms') S' σ' (pc + 3) lv (rv.toList ++ st)) : W p E.1 e R s m args below meth c H locs cells slots Q (F0 m pc ls (stk.map (tr E))) := by
  subst hg
  intro T hT X
  obtain ⟨v, st₀, t, T', L, h0, X', hL, e1, e2, ⟨hv, hH, hz, hk⟩, st1⟩ := hr T hT X
  obtain rfl : v = rv.map (tr E) := by injection hv
  rw [h0] at hz hk
  have hH' : HR E S' σ' s T'.heap := by
    rw [e1]
    exact hH.moved (by rw [← e2]; exact X'.warmed.alike.symm)
  obtain ⟨t2, a1, b1⟩ := kk T'.heap (locs ++ L) ls hH' ⟨Nat.le_trans h2.1 (by rw [e1]; exact hz), fun q g1 g2 => by rw [e1, hk q (Nat.lt_of_lt_of_le g1 h2.1) g2]; exact h2.2.1 q g1 g2, fun q hq => (List.mem_append.mp hq).elim (fun h => h2.2.2 q h) (fun h => hL q h)⟩ h3 T' rfl X'
  refine ⟨t2, st1 t2 ?_, b1⟩
  have : (rv.toList ++ st).map (tr E) = (rv.map (tr E)).toList ++ st.map (tr E) := by cases rv <;> rfl
  rw [this] at a1
  exact a1
theorem r_callV (C : Ctx E Z own cc ret nL d mc ms) (hM : Cm E d' y bytes maxL ret' (.ref b :: As) S S' σ σ' rv mc' ms') (hl : Cond.methodLink own idx y ∈ lw_good) (hc : Ce y bytes maxL ret' n) (hv : CeV y) (hS : S[b]? = some (.inl (ci, fks))) (hq : vwCl[ci]? = some q) (hqc : q.1 = y.cls) (hn : As.length = n) (hdd : d' + 1 ≤ d) (hst : stk = As.reverse ++ .ref b :: st) (hW : (st.map fun v => v.category).sum ≤ 8) (hf : cells + mc' ≤ mc ∧ slots + ms' ≤ ms) (hd : decode cc pc = .ok (.invokevirtual idx, 3))
    (kk : Wm E Z (cells + mc') (slots + ms') S' σ' (pc + 3) lv (rv.toList ++ st)) : Wm E Z cells slots S σ pc lv stk := by
  obtain ⟨⟨p, e, s, m, args, below, meth, c⟩, R, nL', Q⟩ := Z
  obtain ⟨hx, hb, hr, hlocks, hml, rfl, rfl, hown, hts, hO, hbase⟩ := C
  obtain ⟨c1, c2, c3, c4⟩ := hc
  intro H locs ls h1 h2 h3
  have h1' := h1
  obtain ⟨cA, tys, hK, hP, hT, hlen, hbs⟩ := h1
  have hrec := va_recv hK hP hq (ws_at hS)
  rw [hqc] at hrec
  refine c_back (H := H) (locs := locs) (a := (Value.ref (ad E b) :: As.map (tr E)).toArray) rfl (va_runV (As := As.map (tr E)) (C := y.cls) (b := ad E b) ⟨hx, hb, hml, hown, hts⟩ hM (cwV n hts ?_ rfl rfl rfl ⟨rfl, c3⟩ (c_room hdd c4)) ⟨?_, hrec, ?_⟩ rfl (by rw [List.length_map]; exact hn) h3.1 ?_ ?_ hd hf) hbase h2 h3 kk
  · intro w hw
    rcases List.mem_append.mp hw with hw | hw
    · simp only [List.mem_cons, List.not_mem_nil, or_false] at hw
      rcases hw with rfl | rfl | rfl | rfl
      · exact good_all _ hl
      · exact good_all _ hv.1
      · exact good_all _ hv.2
      · exact good_all _ c1
    · exact cw_good c2 w hw
  · intro a U g mk hq
    exact ⟨hq.1, hq.2.1.moved (u := U) (U := U.calling g mk a) (Vm.Alike.refl U.vm), hq.2.2.moved (u := U) (U := U.calling g mk a) (Vm.Alike.refl U.vm)⟩
  · intro U hU hW
    exact ⟨rfl, c_pre h1' h2 hO hU hW⟩
  · show stk.map (tr E) = _
    rw [hst]
    simp [tr]
  · show 2 * 0 + ((st.map (tr E)).map fun v => v.category).sum ≤ 8
    rw [c_cat]
    omega
theorem r_callS (C : Ctx E Z own cc ret nL d mc ms) (hM : Cm E d' y bytes maxL ret' As S S' σ σ' rv mc' ms') (hl : Cond.methodLink own idx y ∈ lw_good) (hc : Ce y bytes maxL ret' n) (hv : CeS y) (hn : As.length = n) (hdd : d' + 1 ≤ d) (hst : stk = As.reverse ++ st) (hW : (st.map fun v => v.category).sum ≤ 8) (hf : cells + mc' ≤ mc ∧ slots + ms' ≤ ms) (hd : decode cc pc = .ok (.invokestatic idx, 3))
    (kk : Wm E Z (cells + mc') (slots + ms') S' σ' (pc + 3) lv (rv.toList ++ st)) : Wm E Z cells slots S σ pc lv stk := by
  obtain ⟨⟨p, e, s, m, args, below, meth, c⟩, R, nL', Q⟩ := Z
  obtain ⟨hx, hb, hr, hlocks, hml, rfl, rfl, hown, hts, hO, hbase⟩ := C
  obtain ⟨c1, c2, c3, c4⟩ := hc
  intro H locs ls h1 h2 h3
  refine c_back (H := H) (locs := locs) (a := (As.map (tr E)).toArray) rfl (va_runS (As := As.map (tr E)) ⟨hx, hb, hml, hown, hts⟩ hM ⟨callB_of n hts (cw_good c2) rfl rfl rfl (hts _ c1) (hts _ hl) c3 (c_room hdd c4), hts _ hv⟩ ⟨?_, ?_⟩ rfl (by rw [List.length_map]; exact hn) h3.1 ?_ ?_ hd hf) hbase h2 h3 kk
  · intro a U g mk hq
    exact ⟨hq.1, hq.2.1.moved (u := U) (U := U.calling g mk a) (Vm.Alike.refl U.vm), hq.2.2.moved (u := U) (U := U.calling g mk a) (Vm.Alike.refl U.vm)⟩
  · intro U hU hW
    exact ⟨rfl, c_pre h1 h2 hO hU hW⟩
  · show stk.map (tr E) = _
    rw [hst]
    simp
  · show 2 * 0 + ((st.map (tr E)).map fun v => v.category).sum ≤ 8
    rw [c_cat]
    omega
end Calls
