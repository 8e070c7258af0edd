/-! ===== constructors ===== -/
/-- the words on rows of references -/
def va_AOA (ty : FieldType) (U : State) : Prop := (Cond.arrayOver (.array ty)).before #[] U = true
def AOz (U : State) : Prop := va_AO RX5 U ∧ va_AOA .int U
def QcN (E : Ev) (S S' : List Sh) (σ' : Sg) : Array Value → State → Outcome → State → Prop := fun _ st o t => ∃ E' : Ev, Ext E E' S.length ∧ o = .returned none ∧ HR E' S' σ' t t.heap ∧ va_F (AE E) st t
def Cn (E : Ev) (d : Nat) (y : MethodName) (cc : ByteArray) (nL : Nat) (av : List Value) (S S' : List Sh) (σ σ' : Sg) (mc ms : Nat) : Prop :=
  Met E.1 y (Cond.code y cc nL none :: lw_good) (rmD d mc ms) (fun a U => a = (av.map (tr E)).toArray ∧ HR E S σ U U.heap ∧ OL E U U.heap ∧ AOz U) (QcN E S S' σ') mc ms (AE E)
def EnN (E : Ev) (Z : Zx) (S S' : List Sh) (σ' : Sg) (mc ms : Nat) : Prop :=
  match Z with
  | ((_, _, s, _, args, below, _, _), _, _, Q) => Q = MQ below (QcN E S S' σ') args s mc ms (AE E)
def Nm (Z : Zx) : Prop :=
  match Z with
  | ((_, _, s, _, _, _, meth, _), _, _, _) => meth.name = "<init>" ∧ AOz s
/-- the words alone (for a caller that is no constructor) -/
def Az (Z : Zx) : Prop :=
  match Z with
  | ((_, _, s, _, _, _, _, _), _, _, _) => AOz s
theorem Nm.az {Z : Zx} (h : Nm Z) : Az Z := by
  obtain ⟨⟨p, e, s, m, args, below, meth, c⟩, R, nL', Q⟩ := Z
  exact h.2
theorem va_AOA.moved {u U : State} (hvm : u.vm.Alike U.vm) (h : va_AOA .int u) : va_AOA .int U :=
  (Cond.arrayOver_setVmC (args := #[]) (s := u) hvm (.array .int)).trans h
theorem va_AOA.use {ty : FieldType} {A : Array Value} {U : State} (h : va_AOA ty U) : (Cond.arrayOver (.array ty)).before A U = true := h
theorem AOz.moved {u U : State} (hvm : u.vm.Alike U.vm) (h : AOz u) : AOz U := ⟨va_AO.moved hvm h.1, va_AOA.moved hvm h.2⟩
theorem Cn.intro {E : Ev} {d : Nat} {y : MethodName} {cc : ByteArray} {nL : Nat} {av : List Value} {S S' : List Sh} {σ σ' : Sg} {mc ms : Nat} (hy : plainFor y = true) (hy1 : y.name = "<init>") (hn : (lg_sl av).length ≤ nL)
    (h : ∀ Z : Zx, Ctx E Z y.cls cc none nL d mc ms → Nm Z → EnN E Z S S' σ' mc ms → Wm E Z 0 0 S σ 0 (lv_args 0 av) []) : Cn E d y cc nL av S S' σ σ' mc ms := by
  refine va_MetF (cc := cc) (maxL := nL) (ret := none) hy rfl ?_
  intro p e s m args below meth c s₁ B hml hv
  obtain ⟨rfl, hH, hO, hAO⟩ := hv
  have hts := atoms_spec (ws := Cond.code y cc nL none :: lw_good) B.pre
  have hown : s.vm.findClass y.cls = some m.cls := findClass_of_methodNamed B.named
  have hin : meth.name = y.name := (name_of_methodNamed B.named B.method).1
  have k := h ((p, e, s, m, (av.map (tr E)).toArray, below, meth, c), rmD d mc ms, nL, MQ below (QcN E S S' σ') (av.map (tr E)).toArray s mc ms (AE E)) ⟨B.exec, B.bytes, B.returns, B.notSynchronized, hml, rfl, rfl, hown, fun w hw => hts w (List.mem_cons_of_mem _ hw), hO, by obtain ⟨_, _, _, _, _, _, h⟩ := hH; exact h⟩ ⟨hin.trans hy1, hAO⟩ rfl
  rw [lg_entry_eq]
  refine k s.heap [] _ hH va_S.rf ?_
  rw [← lv_args_tr]
  exact lv_entry (av.map (tr E)) (by rw [lg_sl_tr]; exact hn)
theorem Cl_push {S : List Sh} {x : Sh} (h : Cl S) (hx : clX (S.length + 1) x) (hl : S.length + 1 < 900) : Cl (S ++ [x]) := by
  have mono : ∀ y : Sh, clX S.length y → clX (S.length + 1) y := by
    intro y hy
    match y, hy with
    | .inl o, hy =>
      intro f hf
      have := hy f hf
      match f, this with
      | none, _ => trivial
      | some none, _ => trivial
      | some (some (some t)), this => exact this.elim (fun h => Or.inl (by omega)) Or.inr
    | .inr (.inl _), _ => trivial
    | .inr (.inr (.inl _)), _ => trivial
    | .inr (.inr (.inr a)), hy => exact fun o ho t e => (hy o ho t e).elim (fun h => Or.inl (by omega)) Or.inr
  refine ⟨by simpa using hl, fun k y hy => ?_⟩
  rw [List.length_append]
  show clX (S.length + 1) y
  by_cases hk : k < S.length
  · rw [List.getElem?_append_left hk] at hy
    exact mono y (h.2 k y hy)
  · have hk2 := lt_of_get hy
    rw [List.length_append] at hk2
    have : k = S.length := by simp at hk2; omega
    subst this
    rw [List.getElem?_append_right (Nat.le_refl _)] at hy
    simp only [Nat.sub_self, List.getElem?_cons_zero] at hy
    obtain rfl := Option.some.inj hy
    exact hx
theorem Cl_set {S : List Sh} {k : Nat} {x : Sh} (h : Cl S) (hx : clX S.length x) : Cl (S.set k x) := by
  refine ⟨by rw [List.length_set]; exact h.1, fun j y hy => ?_⟩
  rw [List.length_set]
  by_cases hj : j = k
  · subst hj
    have hl := lt_of_get hy
    rw [List.length_set] at hl
    rw [List.getElem?_set_self hl] at hy
    obtain rfl := Option.some.inj hy
    exact hx
  · rw [List.getElem?_set_ne (by omega)] at hy
    exact h.2 j y hy
section Make2
variable {E E0 : Ev} {Z : Zx} {own : String} {cc : ByteArray} {ret : Option FieldType} {nL d mc ms cells slots : Nat} {S S0 : List Sh} {σ : Sg} {pc : Nat} {lv : List (Nat × Value)} {st stk : List Value}
theorem r_vretN (C : Ctx E Z own cc none nL d mc ms) (hX : Ext E0 E S0.length) (hE : EnN E0 Z S0 S σ cells slots) (hd : decode cc pc = .ok (.return_, 1)) : Wm E Z cells slots S σ pc lv [] := by
  obtain ⟨⟨p, e, s, m, args, below, meth, c⟩, R, nL', Q⟩ := Z
  obtain ⟨hx, hb, hr, hlocks, hml, rfl, rfl, hown, hts, hO, hbase⟩ := C
  have hE : Q = _ := hE
  subst hE
  intro H locs ls h1 h2 h3
  exact W.vret hx hb hr (fun t ht hW => ⟨E, hX, rfl, by rw [ht]; exact h1.moved hW.alike, by rw [← AE_ext hX]; exact h2.F ht⟩) (by rw [← AE_ext hX]; exact h2.2.2) hd hlocks
/-- a constructor's call (of the same nest: methodLinkNest; else methodLink) -/
theorem r_callN {S' : List Sh} {σ' : Sg} {d' n maxL mc' ms' idx b : Nat} {y : MethodName} {bytes : ByteArray} {As : List Value} (C : Ctx E Z own cc ret nL d mc ms) (hM : Cn E d' y bytes maxL (.ref b :: As) S S' σ σ' mc' ms') (hl : (∃ host, Cond.methodLinkNest own idx y host ∈ lw_nest) ∨ Cond.methodLink own idx y ∈ lw_good) (hc : Ce y bytes maxL none n) (hv : Cond.instanceMethod y ∈ lw_good) (hy1 : y.name = "<init>") (hNm : Az Z) (hcl : Cl S) (hok : okV S.length lv st) (hn : As.length = n) (hdd : d' + 1 ≤ d) (hst : stk = As.reverse ++ .ref b :: st) (hW : (st.map fun v => v.category).sum ≤ 8) (hf : cells + mc' ≤ mc ∧ slots + ms' ≤ ms) (hd : decode cc pc = .ok (.invokespecial idx, 3)) {pc' : Nat} (hp : pc + 3 = pc')
    (kk : ∀ E' : Ev, Ext E E' S.length → Ctx E' Z own cc ret nL d mc ms → Wm E' Z (cells + mc') (slots + ms') S' σ' pc' lv st) : Wm E Z cells slots S σ pc lv stk := by
  subst hp
  have C' := C
  obtain ⟨⟨p, e, s, m, args, below, meth, c⟩, R, nL', Q⟩ := Z
  obtain ⟨hx, hb, hr, hlocks, hml, rfl, rfl, hown, hts, hO, hbase⟩ := C
  obtain ⟨c1, c2, c3, c4⟩ := hc
  intro H locs ls h1 h2 h3
  have hpre : PreS s H (fun a U => a = ((Value.ref b :: As).map (tr E)).toArray ∧ HR E S σ U U.heap ∧ OL E U U.heap ∧ AOz U) (.ref (ad E b) :: As.map (tr E)) := by
    refine ⟨?_, ?_⟩
    · intro a U g mk hq
      exact ⟨hq.1, hq.2.1.moved (u := U) (U := U.calling g mk a) (Vm.Alike.refl U.vm), hq.2.2.1.same (u := U) (U := U.calling g mk a) rfl, AOz.moved (u := U) (U := U.calling g mk a) (Vm.Alike.refl U.vm) hq.2.2.2⟩
    · intro U hU hW
      have q := c_pre h1 h2 hO hU hW
      exact ⟨rfl, q.1, q.2, AOz.moved hW.alike hNm⟩
  have hstk : stk.map (tr E) = (As.map (tr E)).reverse ++ .ref (ad E b) :: st.map (tr E) := by
    rw [hst]
    simp [tr]
  have hroom : 2 * 0 + ((st.map (tr E)).map fun v => v.category).sum ≤ 8 := by
    rw [c_cat]
    omega
  have hrun : va_Run p E.1 e (rmD d mc ms) s m args below meth c H locs cells slots mc' ms' (F0 m pc ls (stk.map (tr E))) (st.map (tr E)) (QcN E S S' σ' (Value.ref (ad E b) :: As.map (tr E)).toArray) (AE E) := by
    rcases hl with ⟨host, hl⟩ | hl
    · exact va_runIN (As := As.map (tr E)) (b := ad E b) ⟨hx, hb, hml, hown, hts⟩ hM ⟨va_cnB n hts (cw_good c2) rfl rfl rfl (hO.2.2.2.2 _ hl) (hts _ c1) c3 (c_room hdd c4), hy1, hts _ hv⟩ hpre rfl (by rw [List.length_map]; exact hn) h3.1 hstk hroom hd hf
    · exact va_runI (As := As.map (tr E)) (b := ad E b) ⟨hx, hb, hml, hown, hts⟩ hM (cwI n hts (cw_good c2) rfl rfl rfl (hts _ c1) (hts _ hl) (hts _ hv) hy1 c3 (c_room hdd c4)) hpre rfl (by rw [List.length_map]; exact hn) h3.1 hstk hroom hd hf
  intro T hT X
  obtain ⟨v, st₀, t, T', L, h0, X', hL, e1, e2, ⟨E', hX, hv1, hH, hz, hk⟩, st1⟩ := hrun T hT X
  obtain rfl : v = none := by injection hv1
  rw [h0] at hz hk
  have hH' : HR E' S' σ' s T'.heap := by
    rw [e1]
    exact hH.moved (by rw [← e2]; exact X'.warmed.alike.symm)
  obtain ⟨t2, a1, b1⟩ := kk E' hX (Ctx_ext hX C') T'.heap (locs ++ L) ls hH' ⟨Nat.le_trans h2.1 (by rw [e1]; exact hz), fun q g1 g2 => by rw [AE_ext hX] at g2; rw [e1, hk q (Nat.lt_of_lt_of_le g1 h2.1) g2]; exact h2.2.1 q g1 g2, fun q hq => by rw [AE_ext hX]; exact (List.mem_append.mp hq).elim (fun h => h2.2.2 q h) (fun h => hL q h)⟩ (by rw [lv_ext hX hok.1]; exact h3) T' rfl (by rw [hX.1]; exact X')
  refine ⟨t2, st1 t2 ?_, b1⟩
  rw [st_ext hX hok.2] at a1
  exact a1
theorem r_objI (C : Ctx E Z own cc ret nL d mc ms) {idx b : Nat} (hl : Cond.methodLink own idx Lib.objectInit ∈ lw_good) (hi : Cond.instanceMethod Lib.objectInit ∈ lw_good) (hcd : Cond.code Lib.objectInit ⟨#[0xb1]⟩ 1 none ∈ lw_good) (hW : (st.map fun v => v.category).sum ≤ 8) (hd : decode cc pc = .ok (.invokespecial idx, 3)) {pc' : Nat} (hp : pc + 3 = pc') (kk : Wm E Z cells slots S σ pc' lv st) : Wm E Z cells slots S σ pc lv (.ref b :: st) := by
  subst hp
  obtain ⟨⟨p, e, s, m, args, below, meth, c⟩, R, nL', Q⟩ := Z
  obtain ⟨hx, hb, hr, hlocks, hml, rfl, rfl, hown, hts, hO, hbase⟩ := C
  intro H locs ls h1 h2 h3
  refine W.objInit hx hb hown (hts _ hl) (hts _ hi) (hts _ hcd) rfl (by rw [hml]; exact h3.1) rfl hd (by show 1 ≤ d + 1; omega) ?_ (kk H locs ls h1 h2 h3)
  show 2 * 0 + ((st.map (tr E)).map fun v => v.category).sum + 12 ≤ 64 * (d + 1)
  rw [c_cat]
  omega
def dvK : FK → Value
  | none => .int 0
  | _ => .null
theorem r_new (C : Ctx E Z own cc ret nL d mc ms) {ci idx : Nat} {q : vw_C} {fks : List FK} (tf : Nat → FieldType) (hq : vwCl[ci]? = some q) (hin : ∀ w ∈ u_ws q.1 q.2.1 q.2.2, w ∈ lw_good) (htf : ∀ k, k < q.2.2 → parseFieldDescriptor (q.2.1 k).2.2.1 = some (tf k)) (hw1 : Cond.classLink own idx q.1 ∈ lw_good) (hw2 : Cond.instantiable q.1 q.2.2 ∈ lw_good) (hw3 : Cond.initialized q.1 ∈ lw_good) (hfk : ∀ x ∈ fks, x = none ∨ x = some none) (hdv : ∀ j, j < q.2.2 → defaultValue (tf j) = (fks.map dvK).getD j .null) (hcl : Cl S) (hok : okV S.length lv st) (hc : cells + 1 ≤ mc) (hs : slots + q.2.2 ≤ ms) (hd : decode cc pc = .ok (.new idx, 3)) {pc' : Nat} (hp : pc + 3 = pc')
    (kk : ∀ E' : Ev, Ext E E' S.length → Ctx E' Z own cc ret nL d mc ms → Wm E' Z (cells + 1) (slots + q.2.2) (S ++ [.inl (ci, fks)]) (zi σ S.length) pc' lv (.ref S.length :: st)) : Wm E Z cells slots S σ pc lv st := by
  subst hp
  have C' := C
  obtain ⟨⟨p, e, s, m, args, below, meth, c⟩, R, nL', Q⟩ := Z
  obtain ⟨hx, hb0, hr, hlocks, hml, rfl, rfl, hown, hts, hO, hbase⟩ := C
  intro H locs ls h1 h2 h3
  obtain ⟨cA, tys, hK, hP, hT, hlen, hbs⟩ := h1
  have hA : ∀ q, s.heap.size ≤ q → AE E q := fun q h => Nat.le_trans hbase h
  refine va_new (ci := ci) (fs := fks.map dvK) hx hb0 hts hin tf htf hown (hts _ hw1) (hts _ hw2) (hts _ hw3) hK hP (ws_D hlen) h2 hA hq hdv hc hs hd (fun a H1 g2 g3 g4 => ?_)
  have hX := exE_ext E a (n := S.length) (by have := hcl.1; omega)
  have he : ent (exE E S.length a) (fun k => if k = S.length then 0 else cA k) (zi σ S.length) S.length (.inl (ci, fks)) = .inr (ci, fks.map dvK) := by
    show (Sum.inr (ci, fks.mapIdx (fun j x => tr (exE E S.length a) (fa (zi σ S.length) S.length j x))) : va_E) = _
    congr 2
    apply List.ext_getElem?
    intro j
    rw [List.getElem?_mapIdx, List.getElem?_map]
    cases hy : fks[j]? with
    | none => rfl
    | some y =>
      show some (tr _ (fa _ _ j y)) = some (dvK y)
      rcases hfk y (List.mem_of_getElem? hy) with rfl | rfl
      · show some (Value.int (gi (zi σ S.length) S.length j)) = _
        rw [gi_zi]
        rfl
      · rfl
  have k2 := kk (exE E S.length a) hX (Ctx_ext hX C') H1 locs ls (HR_push (cN := 0) hcl hK hT (fun t0 z hz => hz) (fun ty h => by cases h) (Nat.le_trans hbase g4.1) he g2 g3) (by rw [AE_ext hX]; exact g4) (by rw [lv_ext hX hok.1]; exact h3)
  have e2 : (Value.ref S.length :: st).map (tr (exE E S.length a)) = .ref a :: st.map (tr E) := by
    rw [List.map_cons, st_ext hX hok.2]
    congr 1
    show Value.ref (if S.length = S.length then a else _) = _
    rw [if_pos rfl]
  rw [e2] at k2
  exact k2
theorem r_putR (C : Ctx E Z own cc ret nL d mc ms) (hN : Nm Z) {idx ci j k t : Nat} {fin : Bool} {fks : List FK} {ty : FieldType} (F : Flp own idx ci j ty fin) (hown1 : ∃ q : vw_C, vwCl[ci]? = some q ∧ q.1 = own) (hS : S[k]? = some (.inl (ci, fks))) (hj : fks[j]? = some (some none)) (hn : ∀ a : Addr, narrow ty (.ref a) = .ref a) (hfit : ∀ a : Addr, fits ty (.ref a) = true) (hd : decode cc pc = .ok (.putfield idx, 3)) {pc' : Nat} (hp : pc + 3 = pc') {S' : List Sh} (hS' : S' = S.set k (.inl (ci, fks.set j (some (some (some t)))))) (kk : Wm E Z cells slots S' σ pc' lv st) : Wm E Z cells slots S σ pc lv (.ref t :: .ref k :: st) := by
  subst hp
  obtain ⟨⟨p, e, s, m, args, below, meth, c⟩, R, nL', Q⟩ := Z
  obtain ⟨hx, hb, hr, hlocks, hml, rfl, rfl, hown, hts, hO, hbase⟩ := C
  obtain ⟨q, tf, hq, hjn, hin, hl, hs, htf, rfl, hnm, hfin⟩ := F
  intro H locs ls h1 h2 h3
  obtain ⟨cA, tys, hK, hP, hT, hlen, hbs⟩ := h1
  have fin2 : ∀ (H1 : Heap) (locs1 : List Loc), va_P E.2.1 vwCl ((wsO E cA σ S).set k (ad E k, .inr (ci, (fks.mapIdx (fun i y => tr E (fa σ k i y))).set j (.ref (ad E t))))) H1 → va_S (AE E) s.heap H1 locs1 → W p E.1 e (rmD d mc ms) s m args below meth c H1 locs1 cells slots Q (F0 m (pc + 3) ls (st.map (tr E))) := by
    intro H1 locs1 g1 g3
    refine kk H1 locs1 ls ?_ g3 h3
    refine HR_put (σ := σ) hK hT hlen (Nat.le_trans hbase g3.1) hS hS' rfl ?_ (fun i hi => ⟨rfl, rfl⟩) g1
    show (Sum.inr (ci, (fks.set j (some (some (some t)))).mapIdx (fun i y => tr E (fa σ k i y))) : va_E) = Sum.inr (ci, _)
    rw [mapIdx_set (l2 := fks.set j (some (some (some t)))) (x0 := some (some (some t))) (v := Value.ref (ad E t)) (f := fun i y => tr E (fa σ k i y)) (g := fun i y => tr E (fa σ k i y)) rfl (lt_of_get hj) rfl (fun i y _ _ => rfl)]
  have hsame : ∀ x, s.fieldFound? (q.2.1 j).1 (q.2.1 j).2.1 (q.2.1 j).2.2.1 = some x → s.fieldFound? q.1 (q.2.1 j).2.1 (q.2.1 j).2.2.1 = some x := fun x hx => by rw [hs] at hx; exact hx
  cases fin with
  | false => exact va_put (T := q.2.1) (C := q.1) (N := q.2.2) (ref := q.1) hx hb hts hin tf htf hnm hown hK hP (ws_D hlen) h2 k (ws_at hS) hq j hjn (hts _ hl) hsame hfin (htf j hjn) (hn _) (hfit _) (by simpa using lt_of_get hj) hd (fun H1 locs1 g1 g2 g3 => fin2 H1 locs1 g1 g3)
  | true =>
    obtain ⟨q', hq', hq1⟩ := hown1
    have : q' = q := Option.some.inj (hq'.symm.trans hq)
    subst this
    exact va_putF (T := q'.2.1) (C := q'.1) (N := q'.2.2) (ref := q'.1) hx hb hts hin tf htf hnm hown hK hP (ws_D hlen) h2 k (ws_at hS) hq j hjn (hts _ hl) hsame hfin hN.1 (hs.trans hq1) (htf j hjn) (hn _) (hfit _) (by simpa using lt_of_get hj) hd (fun H1 locs1 g1 g2 g3 => fin2 H1 locs1 g1 g3)
theorem r_anew (C : Ctx E Z own cc ret nL d mc ms) {idx N : Nat} {n : Int32} (hw1 : Cond.classLink own idx RX5 ∈ lw_good) (hN0 : Nm Z) (hcl : Cl S) (hok : okV S.length lv st) (hn : ¬ n < 0) (hN : n.toNatClampNeg = N) (hb : N * 4 ≤ 536870912) (hc : cells + 1 ≤ mc) (hs : slots + N ≤ ms) (hd : decode cc pc = .ok (.anewarray idx, 3)) {pc' : Nat} (hp : pc + 3 = pc')
    (kk : ∀ E' : Ev, Ext E E' S.length → Ctx E' Z own cc ret nL d mc ms → Wm E' Z (cells + 1) (slots + N) (S ++ [.inr (.inr (.inr (.object RX5, List.replicate N none)))]) (zi σ S.length) pc' lv (.ref S.length :: st)) : Wm E Z cells slots S σ pc lv (.int n :: st) := by
  subst hp
  have C' := C
  obtain ⟨⟨p, e, s, m, args, below, meth, c⟩, R, nL', Q⟩ := Z
  obtain ⟨hx, hb0, hr, hlocks, hml, rfl, rfl, hown, hts, hO, hbase⟩ := C
  intro H locs ls h1 h2 h3
  obtain ⟨cA, tys, hK, hP, hT, hlen, hbs⟩ := h1
  have hA : ∀ q, s.heap.size ≤ q → AE E q := fun q h => Nat.le_trans hbase h
  refine va_newq hx hb0 hown (hts _ hw1) hN0.2.1 hK hP (ws_D hlen) h2 hA hn hN hb hc hs hd (fun a cN H1 g1 g2 g3 g4 => ?_)
  have hX := exE_ext E a (n := S.length) (by have := hcl.1; omega)
  have he : ent (exE E S.length a) (fun k => if k = S.length then cN else cA k) (zi σ S.length) S.length (.inr (.inr (.inr (.object RX5, List.replicate N none)))) = .inl (cN, N, .inr (.inr (.inr (.inr (fun _ => none))))) := by
    show (Sum.inl (if S.length = S.length then cN else cA S.length, (List.replicate N (none : Option Nat)).length, Sum.inr (Sum.inr (Sum.inr (Sum.inr (fun j => ((List.replicate N (none : Option Nat)).getD j none).map (ad (exE E S.length a))))))) : va_E) = _
    rw [if_pos rfl, List.length_replicate]
    have : (fun j => ((List.replicate N (none : Option Nat)).getD j none).map (ad (exE E S.length a))) = (fun _ => none) := by
      funext j
      rw [List.getD_eq_getElem?_getD, List.getElem?_replicate]
      split <;> rfl
    rw [this]
  have k2 := kk (exE E S.length a) hX (Ctx_ext hX C') H1 locs ls (HR_push hcl g1 hT (fun t0 z hz => by rw [List.getElem?_append_left (lt_of_get hz)]; exact hz) (fun ty h => by obtain rfl := Option.some.inj h; exact ⟨tys.length, by rw [List.getElem?_append_right (Nat.le_refl _)]; simp⟩) (Nat.le_trans hbase g4.1) he g2 g3) (by rw [AE_ext hX]; exact g4) (by rw [lv_ext hX hok.1]; exact h3)
  have e2 : (Value.ref S.length :: st).map (tr (exE E S.length a)) = .ref a :: st.map (tr E) := by
    rw [List.map_cons, st_ext hX hok.2]
    congr 1
    show Value.ref (if S.length = S.length then a else _) = _
    rw [if_pos rfl]
  rw [e2] at k2
  exact k2
theorem r_aast (C : Ctx E Z own cc ret nL d mc ms) {k t ci : Nat} {l : List (Option Nat)} {q : vw_C} {fks : List FK} {i : Int32} (hS : S[k]? = some (.inr (.inr (.inr (.object q.1, l))))) (ht : S[t]? = some (.inl (ci, fks))) (hq : vwCl[ci]? = some q) (hi : vp_in i l.length) (hd : decode cc pc = .ok (.aastore, 1)) {pc' : Nat} (hp : pc + 1 = pc') {S' : List Sh} (hS' : S' = S.set k (.inr (.inr (.inr (.object q.1, l.set i.toNatClampNeg (some t)))))) (kk : Wm E Z cells slots S' σ pc' lv st) : Wm E Z cells slots S σ pc lv (.ref t :: .int i :: .ref k :: st) := by
  subst hp
  obtain ⟨⟨p, e, s, m, args, below, meth, c⟩, R, nL', Q⟩ := Z
  obtain ⟨hx, hb, hr, hlocks, hml, rfl, rfl, hown, hts, hO, hbase⟩ := C
  intro H locs ls h1 h2 h3
  obtain ⟨cA, tys, hK, hP, hT, hlen, hbs⟩ := h1
  obtain ⟨t0, ht0⟩ := hT k _ _ hS rfl
  refine va_astq hx hb hK hP (ws_D hlen) h2 k t0 t ci (ws_at hS) ht0 (ws_at ht) hq hi hd (fun H1 locs1 g1 g2 g3 => kk H1 locs1 ls ?_ g3 h3)
  refine HR_put (σ := σ) hK hT hlen (Nat.le_trans hbase g3.1) hS hS' rfl ?_ (fun i hi => ⟨rfl, rfl⟩) g1
  have hlt : i.toNatClampNeg < l.length := Nat.not_le.mp fun q => hi (Or.inr q)
  show (Sum.inl (cA k, (l.set i.toNatClampNeg (some t)).length, Sum.inr (Sum.inr (Sum.inr (Sum.inr (fun j => ((l.set i.toNatClampNeg (some t)).getD j none).map (ad E)))))) : va_E) = _
  rw [List.length_set]
  have : (fun j => ((l.set i.toNatClampNeg (some t)).getD j none).map (ad E)) = va_up (fun j => (l.getD j none).map (ad E)) i.toNatClampNeg (some (ad E t)) := by
    funext j
    show _ = if j = i.toNatClampNeg then _ else _
    rw [List.getD_eq_getElem?_getD]
    by_cases hj : j = i.toNatClampNeg
    · rw [if_pos hj, hj, List.getElem?_set_self hlt]
      rfl
    · rw [if_neg hj, List.getElem?_set_ne (fun e => hj e.symm)]
      show _ = Option.map (ad E) (l.getD j none)
      rw [List.getD_eq_getElem?_getD]
  rw [this]
end Make2
