/-! ===== what makes cells: the places grow ===== -/
def Ext (E E' : Ev) (n : Nat) : Prop := E'.1 = E.1 ∧ E'.2.1 = E.2.1 ∧ E'.2.2.2 = E.2.2.2 ∧ ∀ k, k < n ∨ 1000 ≤ k → ad E' k = ad E k
theorem Ext.rf (E : Ev) (n : Nat) : Ext E E n := ⟨rfl, rfl, rfl, fun _ _ => rfl⟩
theorem Ext.trans {E E' E'' : Ev} {n n' : Nat} (h : Ext E E' n) (h' : Ext E' E'' n') (hn : n ≤ n') : Ext E E'' n := ⟨h'.1.trans h.1, h'.2.1.trans h.2.1, h'.2.2.1.trans h.2.2.1, fun k hk => (h'.2.2.2 k (by omega)).trans (h.2.2.2 k hk)⟩
def exE (E : Ev) (n q : Nat) : Ev := (E.1, E.2.1, fun k => if k = n then q else E.2.2.1 k, E.2.2.2)
theorem exE_ext (E : Ev) {n : Nat} (q : Nat) (hn : n < 1000) : Ext E (exE E n q) n := ⟨rfl, rfl, rfl, fun k hk => by
  show (if k = n then q else E.2.2.1 k) = E.2.2.1 k
  rw [if_neg]
  omega⟩
/-- references within: to places that are there -/
def clF (n : Nat) : FK → Prop
  | none => True
  | some none => True
  | some (some none) => False
  | some (some (some t)) => t < n ∨ 1000 ≤ t
def clX (n : Nat) : Sh → Prop
  | .inl o => ∀ x ∈ o.2, clF n x
  | .inr (.inl _) => True
  | .inr (.inr (.inl _)) => True
  | .inr (.inr (.inr a)) => ∀ o ∈ a.2, ∀ t, o = some t → t < n ∨ 1000 ≤ t
def Cl (S : List Sh) : Prop := S.length < 900 ∧ ∀ (k : Nat) (x : Sh), S[k]? = some x → clX S.length x
def clV (n : Nat) : Value → Prop
  | .ref k => k < n ∨ 1000 ≤ k
  | _ => True
theorem tr_ext {E E' : Ev} {n : Nat} (h : Ext E E' n) {v : Value} (hv : clV n v) : tr E' v = tr E v := by
  cases v with
  | ref k => show Value.ref (ad E' k) = Value.ref (ad E k); rw [h.2.2.2 k hv]
  | _ => rfl
theorem AE_ext {E E' : Ev} {n : Nat} (h : Ext E E' n) : AE E' = AE E := by
  funext q
  show (E'.2.2.2 ≤ q) = (E.2.2.2 ≤ q)
  rw [h.2.2.1]
theorem OL_ext {E E' : Ev} {n : Nat} (h : Ext E E' n) {U : State} {H : Heap} (q : OL E U H) : OL E' U H := by
  have hA := AE_ext h
  have had : ∀ k, 1000 ≤ k → ad E' k = ad E k := fun k hk => h.2.2.2 k (Or.inr hk)
  refine ⟨?_, ?_, ?_⟩
  · intro k a hk
    have hk' : 1000 ≤ k := by
      unfold oT at hk
      by_cases h0 : k = 1000
      · omega
      by_cases h1 : k = 1001
      · omega
      by_cases h2 : k = 1002
      · omega
      by_cases h3 : k = 1003
      · omega
      · rw [if_neg h0, if_neg h1, if_neg h2, if_neg h3] at hk
        cases hk
    have := q.1 k a hk
    rw [← had k hk', ← hA] at this
    exact this
  · have q2 := q.2.1
    refine ⟨fun i z hi => ?_, ?_, ?_, ?_, ?_⟩
    · have := q2.1 i z hi
      rw [← had (1010 + i) (by omega), ← had (1020 + i) (by omega), ← hA] at this
      exact this
    · rw [hA]; exact q2.2.1
    · have hs : tr E' (sio E') = tr E (sio E) := by
        have e1 : E'.2.2.1 1031 = E.2.2.1 1031 := had 1031 (by omega)
        unfold sio
        rw [e1]
        split
        · rfl
        · show Value.ref (ad E' 1030) = Value.ref (ad E 1030)
          rw [had 1030 (by omega)]
      rw [hA, hs]; exact q2.2.2.1
    · rw [hA]; exact q2.2.2.2.1
    · rw [hA]; exact q2.2.2.2.2
  · refine ⟨fun i z hi => ?_, fun i z hi => ?_, q.2.2.2.2⟩
    · rw [had (1010 + i) (by omega)]; exact q.2.2.1 i z hi
    · rw [had (1040 + i) (by omega)]; exact q.2.2.2.1 i z hi
theorem Ctx_ext {E E' : Ev} {n : Nat} (h : Ext E E' n) {Z : Zx} {own : String} {cc : ByteArray} {ret : Option FieldType} {nL d mc ms : Nat} (C : Ctx E Z own cc ret nL d mc ms) : Ctx E' Z own cc ret nL d mc ms := by
  obtain ⟨⟨p, e, s, m, args, below, meth, c⟩, R, nL', Q⟩ := Z
  obtain ⟨hx, hb, hr, hlocks, hml, e1, e2, hown, hts, hO, hbase⟩ := C
  exact ⟨hx, hb, hr, hlocks, hml, e1, e2, hown, hts, OL_ext h hO, by rw [h.2.2.1]; exact hbase⟩
def zi (σ : Sg) (n : Nat) : Sg := (fun k => if k = n then fun _ => 0 else σ.1 k, fun k => if k = n then fun _ => 0 else σ.2 k)
theorem gi_zi (σ : Sg) (n : Nat) : gi (zi σ n) n = fun _ => 0 := by
  funext j
  show (if n = n then (fun _ => (0 : Int32)) else σ.1 n) j = 0
  rw [if_pos rfl]
theorem gl_zi (σ : Sg) (n : Nat) : gl (zi σ n) n = fun _ => 0 := by
  funext j
  show (if n = n then (fun _ => (0 : Int64)) else σ.2 n) j = 0
  rw [if_pos rfl]
theorem gi_zi_ne {σ : Sg} {n k : Nat} (h : k ≠ n) : gi (zi σ n) k = gi σ k := by
  funext j
  show (if k = n then (fun _ => (0 : Int32)) else σ.1 k) j = _
  rw [if_neg h]
  rfl
theorem gl_zi_ne {σ : Sg} {n k : Nat} (h : k ≠ n) : gl (zi σ n) k = gl σ k := by
  funext j
  show (if k = n then (fun _ => (0 : Int64)) else σ.2 k) j = _
  rw [if_neg h]
  rfl
theorem ent_ext {E E' : Ev} {n : Nat} (h : Ext E E' n) {cA cA' : Nat → ClassId} {σ σ' : Sg} {k : Nat} (hg : gi σ' k = gi σ k) (hl : gl σ' k = gl σ k) (hc : cA' k = cA k) {x : Sh} (hx : clX n x) : ent E' cA' σ' k x = ent E cA σ k x := by
  rw [ent_congr hg hl]
  match x, hx with
  | .inl o, hx =>
    show (Sum.inr (o.1, o.2.mapIdx (fun j y => tr E' (fa σ k j y))) : va_E) = Sum.inr (o.1, o.2.mapIdx (fun j y => tr E (fa σ k j y)))
    have : o.2.mapIdx (fun j y => tr E' (fa σ k j y)) = o.2.mapIdx (fun j y => tr E (fa σ k j y)) := by
      apply List.ext_getElem?
      intro j
      rw [List.getElem?_mapIdx, List.getElem?_mapIdx]
      cases hy : o.2[j]? with
      | none => rfl
      | some y =>
        have hcy := hx y (List.mem_of_getElem? hy)
        show some (tr E' (fa σ k j y)) = some (tr E (fa σ k j y))
        rw [tr_ext h (v := fa σ k j y)]
        match y, hcy with
        | none, _ => exact trivial
        | some none, _ => exact trivial
        | some (some (some t)), hcy => exact hcy
    rw [this]
  | .inr (.inl a), _ => show (Sum.inl (cA' k, a.2, Sum.inl (gi σ k)) : va_E) = _; rw [hc]; rfl
  | .inr (.inr (.inl m)), _ => show (Sum.inl (cA' k, m, Sum.inr (Sum.inl (gl σ k))) : va_E) = _; rw [hc]; rfl
  | .inr (.inr (.inr a)), hx =>
    show (Sum.inl (cA' k, a.2.length, Sum.inr (Sum.inr (Sum.inr (Sum.inr (fun j => (a.2.getD j none).map (ad E')))))) : va_E) = Sum.inl (cA k, a.2.length, Sum.inr (Sum.inr (Sum.inr (Sum.inr (fun j => (a.2.getD j none).map (ad E))))))
    have : (fun j => (a.2.getD j none).map (ad E')) = (fun j => (a.2.getD j none).map (ad E)) := by
      funext j
      cases hy : a.2.getD j none with
      | none => rfl
      | some t =>
        show some (ad E' t) = some (ad E t)
        have hm : some t ∈ a.2 := by
          rw [List.getD_eq_getElem?_getD] at hy
          cases hz : a.2[j]? with
          | none => rw [hz] at hy; cases hy
          | some z => rw [hz] at hy; have : z = some t := hy; rw [← this]; exact List.mem_of_getElem? hz
        rw [h.2.2.2 t (hx _ hm t rfl)]
    rw [this, hc]
/-- a new cell at the end -/
theorem HR_push {E : Ev} {S : List Sh} {σ : Sg} {U : State} {H1 : Heap} {cA : Nat → ClassId} {cN : ClassId} {tys tys' : List (ClassId × FieldType)} {q : Nat} {x : Sh} {e : va_E} (hcl : Cl S) (hK : va_K E.2.1 vwCl tys' U) (hT : ∀ (k : Nat) (x : Sh) (ty : FieldType), S[k]? = some x → tyS x = some ty → ∃ t0 : Nat, tys[t0]? = some (cA k, ty)) (htys : ∀ (t0 : Nat) (z : ClassId × FieldType), tys[t0]? = some z → tys'[t0]? = some z) (hN : ∀ ty, tyS x = some ty → ∃ t0 : Nat, tys'[t0]? = some (cN, ty)) (hbs : E.2.2.2 ≤ H1.size)
    (he : ent (exE E S.length q) (fun k => if k = S.length then cN else cA k) (zi σ S.length) S.length x = e) (hP : va_P E.2.1 vwCl (wsO E cA σ S ++ [(q, e)]) H1) (hD : va_D (AE E) (wsO E cA σ S ++ [(q, e)])) : HR (exE E S.length q) (S ++ [x]) (zi σ S.length) U H1 := by
  have hX := exE_ext E q (n := S.length) (by have := hcl.1; omega)
  have hws : wsO (exE E S.length q) (fun k => if k = S.length then cN else cA k) (zi σ S.length) (S ++ [x]) = wsO E cA σ S ++ [(q, e)] := by
    apply List.ext_getElem?
    intro k
    have hlen : (wsO E cA σ S).length = S.length := by unfold wsO; simp
    by_cases hk : k < S.length
    · rw [List.getElem?_append_left (by omega)]
      unfold wsO
      rw [List.getElem?_mapIdx, List.getElem?_mapIdx, List.getElem?_append_left hk]
      cases hy : S[k]? with
      | none => rfl
      | some y =>
        show some (_, _) = some (_, _)
        rw [hX.2.2.2 k (Or.inl hk), ent_ext hX (cA := cA) (σ := σ) (gi_zi_ne (by omega)) (gl_zi_ne (by omega)) (if_neg (by omega)) (hcl.2 k y hy)]
    · by_cases hk2 : k = S.length
      · subst hk2
        rw [List.getElem?_append_right (by omega), hlen]
        unfold wsO
        rw [List.getElem?_mapIdx, List.getElem?_append_right (Nat.le_refl _)]
        simp only [Nat.sub_self, List.getElem?_cons_zero, Option.map_some]
        rw [he]
        show some (ad (exE E S.length q) S.length, e) = _
        have : ad (exE E S.length q) S.length = q := if_pos rfl
        rw [this]
      · have a1 : (wsO E cA σ S ++ [(q, e)])[k]? = none := List.getElem?_eq_none (by rw [List.length_append, hlen]; simp; omega)
        rw [a1]
        apply List.getElem?_eq_none
        unfold wsO
        simp
        omega
  refine ⟨fun k => if k = S.length then cN else cA k, tys', hK, by rw [hws]; exact hP, ?_, ?_, hbs⟩
  · intro k y ty hy hty
    by_cases hk : k = S.length
    · subst hk
      rw [List.getElem?_append_right (Nat.le_refl _)] at hy
      simp only [Nat.sub_self, List.getElem?_cons_zero] at hy
      obtain rfl := Option.some.inj hy
      obtain ⟨t0, h0⟩ := hN ty hty
      exact ⟨t0, by show tys'[t0]? = some (if S.length = S.length then cN else cA S.length, ty); rw [if_pos rfl]; exact h0⟩
    · have hk2 : k < S.length := by have := lt_of_get hy; rw [List.length_append] at this; simp at this; omega
      rw [List.getElem?_append_left hk2] at hy
      obtain ⟨t0, h0⟩ := hT k y ty hy hty
      exact ⟨t0, by show tys'[t0]? = some (if k = S.length then cN else cA k, ty); rw [if_neg hk]; exact htys t0 _ h0⟩
  · rw [← hws] at hD
    have key : ∀ i, i < (S ++ [x]).length → ∃ z, (wsO (exE E S.length q) (fun k => if k = S.length then cN else cA k) (zi σ S.length) (S ++ [x]))[i]? = some (ad (exE E S.length q) i, z) := fun i hi => ⟨_, ws_at (List.getElem?_eq_getElem hi)⟩
    constructor
    · intro i j hi hj hij
      obtain ⟨z1, h1⟩ := key i hi
      obtain ⟨z2, h2⟩ := key j hj
      exact hD.1 i j _ _ h1 h2 hij
    · intro i hi
      obtain ⟨z1, h1⟩ := key i hi
      exact hD.2 i _ h1
/-! rules that make cells -/
def okV (n : Nat) (lv : List (Nat × Value)) (st : List Value) : Prop := (∀ q ∈ lv, clV n q.2) ∧ ∀ v ∈ st, clV n v
theorem lv_ext {E E' : Ev} {n : Nat} (h : Ext E E' n) {lv : List (Nat × Value)} (hl : ∀ q ∈ lv, clV n q.2) : lv.map (fun q => (q.1, tr E' q.2)) = lv.map (fun q => (q.1, tr E q.2)) := List.map_congr_left (fun q hq => by show (q.1, tr E' q.2) = (q.1, tr E q.2); rw [tr_ext h (hl q hq)])
theorem st_ext {E E' : Ev} {n : Nat} (h : Ext E E' n) {st : List Value} (hl : ∀ v ∈ st, clV n v) : st.map (tr E') = st.map (tr E) := List.map_congr_left (fun v hv => tr_ext h (hl v hv))
section Make
variable {E : Ev} {Z : Zx} {own : String} {cc : ByteArray} {ret : Option FieldType} {nL d mc ms cells slots : Nat} {S : List Sh} {σ : Sg} {pc : Nat} {lv : List (Nat × Value)} {st : List Value}
theorem r_newa (C : Ctx E Z own cc ret nL d mc ms) {aty : ArrayType} {n : Int32} {N : Nat} {x : Sh} (hw : Cond.arrayClass (newarray.typeOf aty) ∈ lw_good) (hx0 : (x = .inr (.inl (newarray.typeOf aty, N)) ∧ ∀ cA : ClassId, vp_cell cA (N, .inl (fun _ => 0)) = arrV cA N (fun _ => defaultValue (newarray.typeOf aty))) ∨ (x = .inr (.inr (.inl N)) ∧ newarray.typeOf aty = .long)) (hcl : Cl S) (hok : okV S.length lv st) (hn : ¬ n < 0) (hN : n.toNatClampNeg = N) (hb : N * componentBytes (newarray.typeOf aty) ≤ 536870912) (hc : cells + 1 ≤ mc) (hs : slots + N ≤ ms) (hd : decode cc pc = .ok (.newarray aty, 2)) {pc' : Nat} (hp : pc + 2 = pc')
    (kk : ∀ E' : Ev, Ext E E' S.length → Ctx E' Z own cc ret nL d mc ms → Wm E' Z (cells + 1) (slots + N) (S ++ [x]) (zi σ S.length) pc' lv (.ref S.length :: st)) : Wm E Z cells slots S σ pc lv (.int n :: st) := by
  subst hp
  have C' := C
  obtain ⟨⟨p, e, s, m, args, below, meth, c⟩, R, nL', Q⟩ := Z
  obtain ⟨hx, hb0, hr, hlocks, hml, rfl, rfl, hown, hts, hO, hbase⟩ := C
  intro H locs ls h1 h2 h3
  obtain ⟨cA, tys, hK, hP, hT, hlen, hbs⟩ := h1
  have hA : ∀ q, s.heap.size ≤ q → AE E q := fun q h => Nat.le_trans hbase h
  have fin : ∀ (a0 : vp_A) (_ : ∀ cA : ClassId, vp_cell cA a0 = arrV cA N (fun _ => defaultValue (newarray.typeOf aty))) (_ : ∀ (q : Nat) (cN : ClassId), ent (exE E S.length q) (fun k => if k = S.length then cN else cA k) (zi σ S.length) S.length x = .inl (cN, a0)) (_ : tyS x = some (newarray.typeOf aty)), W p E.1 e (rmD d mc ms) s m args below meth c H locs cells slots Q (F0 m pc ls ((Value.int n :: st).map (tr E))) := by
    intro a0 ha he hty
    refine va_newa hx hb0 (hts _ hw) rfl hK hP (ws_D hlen) h2 hA ha hn hN hb hc hs hd (fun q cN H1 g1 g2 g3 g4 => ?_)
    have hX := exE_ext E q (n := S.length) (by have := hcl.1; omega)
    have k2 := kk (exE E S.length q) hX (Ctx_ext hX C') H1 locs ls (HR_push hcl g1 hT (fun t0 z hz => by rw [List.getElem?_append_left (lt_of_get hz)]; exact hz) (fun ty h => by rw [hty] at h; obtain rfl := Option.some.inj h; exact ⟨tys.length, by rw [List.getElem?_append_right (Nat.le_refl _)]; simp⟩) (Nat.le_trans hbase g4.1) (he q cN) g2 g3) (by rw [AE_ext hX]; exact g4) (by rw [lv_ext hX hok.1]; exact h3)
    have e2 : (Value.ref S.length :: st).map (tr (exE E S.length q)) = .ref q :: st.map (tr E) := by
      rw [List.map_cons, st_ext hX hok.2]
      congr 1
      show Value.ref (if S.length = S.length then q else _) = _
      rw [if_pos rfl]
    rw [e2] at k2
    exact k2
  rcases hx0 with ⟨rfl, ha⟩ | ⟨rfl, ha⟩
  · refine fin (N, .inl (fun _ => 0)) ha (fun q cN => ?_) rfl
    show (Sum.inl (if S.length = S.length then cN else cA S.length, N, Sum.inl (gi (zi σ S.length) S.length)) : va_E) = _
    rw [if_pos rfl, gi_zi]
  · refine fin (N, .inr (.inl (fun _ => 0))) (fun cA => by rw [ha]; rfl) (fun q cN => ?_) (by rw [ha]; rfl)
    show (Sum.inl (if S.length = S.length then cN else cA S.length, N, Sum.inr (Sum.inl (gl (zi σ S.length) S.length))) : va_E) = _
    rw [if_pos rfl, gl_zi]
end Make
