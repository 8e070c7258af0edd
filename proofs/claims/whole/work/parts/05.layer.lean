/-! ===== THE LAYER: the heap as a shape (which cells, whose references) and a store of numbers ===== -/
abbrev Sg : Type := (Nat → Nat → Int32) × (Nat → Nat → Int64)
def gi (σ : Sg) (k j : Nat) : Int32 := σ.1 k j
def gl (σ : Sg) (k j : Nat) : Int64 := σ.2 k j
def wi (σ : Sg) (k j : Nat) (x : Int32) : Sg := (fun a => if a = k then upd (σ.1 k) j x else σ.1 a, σ.2)
def wl (σ : Sg) (k j : Nat) (x : Int64) : Sg := (σ.1, fun a => if a = k then vp_updL (σ.2 k) j x else σ.2 a)
/-- a field: none: a number; some none: null; some (some none): a reference whose place is a number of the store; else a reference to a place -/
abbrev FK : Type := Option (Option (Option Nat))
/-- a cell: an object (number of its kind, fields); a row of ints, chars or truth values; a row of longs; a row of references -/
abbrev Sh : Type := (Nat × List FK) ⊕ (FieldType × Nat) ⊕ Nat ⊕ (FieldType × List (Option Nat))
/-- launch, numbers of the kinds, addresses of what was there before, where the new cells begin -/
abbrev Ev : Type := Launch × va_G × (Nat → Nat) × Nat
def ad (E : Ev) (k : Nat) : Nat := E.2.2.1 k
/-- the places of the new cells have addresses of their own, behind what was there -/
def adN (E : Ev) (n : Nat) : Prop := (∀ i j, i < n → j < n → ad E i = ad E j → i = j) ∧ ∀ i, i < n → E.2.2.2 ≤ ad E i
def tr (E : Ev) : Value → Value
  | .ref k => .ref (ad E k)
  | v => v
def fa (σ : Sg) (k j : Nat) : FK → Value
  | none => .int (gi σ k j)
  | some none => .null
  | some (some none) => .ref (gi σ k j).toNatClampNeg
  | some (some (some t)) => .ref t
def ent (E : Ev) (cA : Nat → ClassId) (σ : Sg) (k : Nat) : Sh → va_E
  | .inl o => .inr (o.1, o.2.mapIdx (fun j x => tr E (fa σ k j x)))
  | .inr (.inl a) => .inl (cA k, a.2, .inl (gi σ k))
  | .inr (.inr (.inl n)) => .inl (cA k, n, .inr (.inl (gl σ k)))
  | .inr (.inr (.inr a)) => .inl (cA k, a.2.length, .inr (.inr (.inr (.inr (fun j => (a.2.getD j none).map (ad E))))))
def tyS : Sh → Option FieldType
  | .inl _ => none
  | .inr (.inl a) => some a.1
  | .inr (.inr (.inl _)) => some .long
  | .inr (.inr (.inr a)) => some a.1
def wsO (E : Ev) (cA : Nat → ClassId) (σ : Sg) (S : List Sh) : va_W := S.mapIdx (fun k x => (ad E k, ent E cA σ k x))
def AE (E : Ev) : Nat → Prop := fun q => E.2.2.2 ≤ q
def HR (E : Ev) (S : List Sh) (σ : Sg) (U : State) (H : Heap) : Prop := ∃ (cA : Nat → ClassId) (tys : List (ClassId × FieldType)), va_K E.2.1 vwCl tys U ∧ va_P E.2.1 vwCl (wsO E cA σ S) H ∧ (∀ (k : Nat) (x : Sh) (ty : FieldType), S[k]? = some x → tyS x = some ty → ∃ t0 : Nat, tys[t0]? = some (cA k, ty)) ∧ adN E S.length ∧ E.2.2.2 ≤ H.size
theorem tr_cat (E : Ev) (v : Value) : (tr E v).category = v.category := by cases v <;> rfl
theorem ws_at {E : Ev} {cA : Nat → ClassId} {σ : Sg} {S : List Sh} {k : Nat} {x : Sh} (h : S[k]? = some x) : (wsO E cA σ S)[k]? = some (ad E k, ent E cA σ k x) := by
  unfold wsO
  rw [List.getElem?_mapIdx, h]
  rfl
theorem ws_of {E : Ev} {cA : Nat → ClassId} {σ : Sg} {S : List Sh} {k : Nat} {q : Nat × va_E} (h : (wsO E cA σ S)[k]? = some q) : ∃ x, S[k]? = some x ∧ q = (ad E k, ent E cA σ k x) := by
  unfold wsO at h
  rw [List.getElem?_mapIdx] at h
  cases hx : S[k]? with
  | none => rw [hx] at h; cases h
  | some x => rw [hx] at h; exact ⟨x, rfl, (Option.some.inj h).symm⟩
theorem lt_of_get {α : Type} {l : List α} {k : Nat} {x : α} (h : l[k]? = some x) : k < l.length := (List.getElem?_eq_some_iff.mp h).1
theorem ws_D {E : Ev} {cA : Nat → ClassId} {σ : Sg} {S : List Sh} (hl : adN E S.length) : va_D (AE E) (wsO E cA σ S) := by
  constructor
  · intro i j p q hi hj hpq
    obtain ⟨x, hx, rfl⟩ := ws_of hi
    obtain ⟨y, hy, rfl⟩ := ws_of hj
    exact hl.1 i j (lt_of_get hx) (lt_of_get hy) hpq
  · intro k q hk
    obtain ⟨x, hx, rfl⟩ := ws_of hk
    exact hl.2 k (lt_of_get hx)
/-- a cell is written: the list of the cells behind it -/
theorem ws_set {E : Ev} {cA : Nat → ClassId} {σ σ' : Sg} {S S' : List Sh} {k : Nat} {x' : Sh} {e : va_E} (hk : k < S.length) (hS : S' = S.set k x') (he : ent E cA σ' k x' = e) (ho : ∀ j, j ≠ k → ∀ y, S[j]? = some y → ent E cA σ' j y = ent E cA σ j y) : (wsO E cA σ S).set k (ad E k, e) = wsO E cA σ' S' := by
  subst hS
  apply List.ext_getElem?
  intro j
  unfold wsO
  by_cases hj : j = k
  · subst hj
    rw [List.getElem?_set_self (by simpa using hk), List.getElem?_mapIdx, List.getElem?_set_self hk]
    simp [he]
  · rw [List.getElem?_set_ne (by omega), List.getElem?_mapIdx, List.getElem?_mapIdx, List.getElem?_set_ne (by omega)]
    cases hy : S[j]? with
    | none => rfl
    | some y => simp [ho j hj y hy]
theorem set_self {α : Type} {l : List α} {k : Nat} {x : α} (h : l[k]? = some x) : l.set k x = l := by
  apply List.ext_getElem?
  intro j
  by_cases hj : j = k
  · subst hj
    rw [List.getElem?_set_self (lt_of_get h), h]
  · rw [List.getElem?_set_ne (by omega)]
theorem gi_wi (σ : Sg) (k j : Nat) (x : Int32) : gi (wi σ k j x) k = upd (gi σ k) j x := by
  funext a
  show (if k = k then upd (σ.1 k) j x else σ.1 k) a = _
  rw [if_pos rfl]
  rfl
theorem gi_wi_ne {σ : Sg} {k j : Nat} {x : Int32} {a : Nat} (h : a ≠ k) : gi (wi σ k j x) a = gi σ a := by
  funext b
  show (if a = k then upd (σ.1 k) j x else σ.1 a) b = _
  rw [if_neg h]
  rfl
theorem gl_wi (σ : Sg) (k j : Nat) (x : Int32) : gl (wi σ k j x) = gl σ := rfl
theorem gi_wl (σ : Sg) (k j : Nat) (x : Int64) : gi (wl σ k j x) = gi σ := rfl
theorem gl_wl (σ : Sg) (k j : Nat) (x : Int64) : gl (wl σ k j x) k = vp_updL (gl σ k) j x := by
  funext a
  show (if k = k then vp_updL (σ.2 k) j x else σ.2 k) a = _
  rw [if_pos rfl]
  rfl
theorem gl_wl_ne {σ : Sg} {k j : Nat} {x : Int64} {a : Nat} (h : a ≠ k) : gl (wl σ k j x) a = gl σ a := by
  funext b
  show (if a = k then vp_updL (σ.2 k) j x else σ.2 a) b = _
  rw [if_neg h]
  rfl
theorem fa_congr {σ σ' : Sg} {k j : Nat} (h : gi σ' k j = gi σ k j) (x : FK) : fa σ' k j x = fa σ k j x := by
  match x with
  | none => show Value.int _ = _; rw [h]; rfl
  | some none => rfl
  | some (some none) => show Value.ref _ = _; rw [h]; rfl
  | some (some (some t)) => rfl
theorem ent_congr {E : Ev} {cA : Nat → ClassId} {σ σ' : Sg} {k : Nat} (h : gi σ' k = gi σ k) (h2 : gl σ' k = gl σ k) (x : Sh) : ent E cA σ' k x = ent E cA σ k x := by
  match x with
  | .inl o =>
    show (Sum.inr (o.1, o.2.mapIdx (fun j x => tr E (fa σ' k j x))) : va_E) = Sum.inr (o.1, o.2.mapIdx (fun j x => tr E (fa σ k j x)))
    have : (fun j x => tr E (fa σ' k j x)) = (fun j x => tr E (fa σ k j x)) := by
      funext j x
      rw [fa_congr (σ := σ) (σ' := σ') (by rw [h])]
    rw [this]
  | .inr (.inl a) => show (Sum.inl (cA k, a.2, Sum.inl (gi σ' k)) : va_E) = _; rw [h]; rfl
  | .inr (.inr (.inl n)) => show (Sum.inl (cA k, n, Sum.inr (Sum.inl (gl σ' k))) : va_E) = _; rw [h2]; rfl
  | .inr (.inr (.inr a)) => rfl
/-! ===== words ===== -/
def lw_good : List Cond := lw_tbl.filter goodWord
theorem wg {w : Cond} (i : Nat) (h : lw_tbl[i]? = some w) (hg : goodWord w = true) : w ∈ lw_good := List.mem_filter.mpr ⟨List.mem_of_getElem? h, hg⟩
theorem good_all : GoodIn lw_good lw_good := fun w h => ⟨h, good_of_word (List.mem_filter.mp h).2⟩
/-! ===== what was there before: the rows of constants ===== -/
def oC0 : List Int32 := [122, 47, 50, 43, 119, 47, 51]
def oC1 : List Int32 := [122, 119, 107, 103, 104, 100, 105, 110]
def oC2 : List Int32 := [0, 0, 1, 1, 2]
def oC3 : List Int32 := [1, 2, 0, 1, 0]
def oT (k : Nat) : Option (FieldType × List Int32) := if k = 1000 then some (.char, oC0) else if k = 1001 then some (.char, oC1) else if k = 1002 then some (.int, oC2) else if k = 1003 then some (.int, oC3) else none
def oN (k : Nat) : String × String × String := if k = 1000 then (RX8, "PLAIN_RULE", "[C") else if k = 1001 then (RX3, "NAMES", "[C") else if k = 1002 then (RX8, "MOVE_FIRST", "[I") else (RX8, "MOVE_SECOND", "[I")
def OL1 (E : Ev) (U : State) (H : Heap) : Prop := ∀ (k : Nat) (a : FieldType × List Int32), oT k = some a → va_Z (oN k).1 (oN k).2.1 (oN k).2.2 (.ref (ad E k)) (AE E) U H ∧ va_T a.1 (ad E k) a.2.length (fun j => .int (a.2.getD j 0)) (AE E) U H
theorem OL1.moved {E : Ev} {u U : State} {H : Heap} (hvm : u.vm.Alike U.vm) (h : OL1 E u H) : OL1 E U H := fun k a hk => ⟨va_Z.moved hvm (h k a hk).1, va_T.moved hvm (h k a hk).2⟩
theorem OL1.kept {E : Ev} {U : State} {H H1 : Heap} (h : OL1 E U H) (hq : ∀ a : Nat, a < H.size → ¬ AE E a → H1[a]? = H[a]?) : OL1 E U H1 := fun k a hk => ⟨va_Z.kept (h k a hk).1 hq, va_T.kept (h k a hk).2 hq⟩
/-- the texts: String constants of the reference (text, pool number, bytes), at the places 1010 + i; their rows of bytes at 1020 + i -/
def oS : List (String × Nat × List Int32) := [("zwkghdin", 232, [122, 119, 107, 103, 104, 100, 105, 110]), ("<>=", 241, [60, 62, 61]), ("+-", 243, [43, 45]), ("*/", 245, [42, 47]), ("nptlg", 351, [110, 112, 116, 108, 103])]
/-- the static of the JDK of which only 'a reference or null' is said -/
def sio (E : Ev) : Value := if E.2.2.1 1031 = 0 then .null else .ref 1030
/-- the texts of the class's throws: pool number, text; at the places 1040 + i -/
def oX : List (Nat × String) := [(143, "no such thing"), (180, "no such what"), (415, "no such number")]
def OS (E : Ev) (U : State) (H : Heap) : Prop := (∀ (i : Nat) (q : String × Nat × List Int32), oS[i]? = some q → va_O "java/lang/String" (ad E (1010 + i)) (AE E) U H ∧ va_OF "java/lang/String" "coder" "B" (.int 0) (ad E (1010 + i)) (AE E) U H ∧ va_OF "java/lang/String" "value" "[B" (.ref (ad E (1020 + i))) (ad E (1010 + i)) (AE E) U H ∧ va_T .byte (ad E (1020 + i)) q.2.2.length (fun j => .int (q.2.2.getD j 0)) (AE E) U H) ∧ va_Z "java/lang/String" "COMPACT_STRINGS" "Z" (.int 1) (AE E) U H ∧ va_Z "jdk/internal/util/Preconditions" "SIOOBE_FORMATTER" "Ljava/util/function/BiFunction;" (tr E (sio E)) (AE E) U H ∧ vx_Zq Bundle.tN "UNASSIGNED_STACK" Bundle.steD (AE E) U H ∧ vx_Zq Bundle.tN "SUPPRESSED_SENTINEL" Bundle.listD (AE E) U H
/-- words that only a nest mate or a throw asks for: not among the good ones -/
def nwB : Cond → Bool
  | .fieldLinkNest .. => true
  | .methodLinkNest .. => true
  | .declares _ => true
  | .castable _ _ => true
  | _ => false
def lw_nest : List Cond := lw_tbl.filter nwB
theorem wn {w : Cond} (i : Nat) (h : lw_tbl[i]? = some w) (hg : nwB w = true) : w ∈ lw_nest := List.mem_filter.mpr ⟨List.mem_of_getElem? h, hg⟩
theorem nw_warm {w : Cond} (hb : nwB w = true) {s U : State} (hW : s.WarmedH U.vm) (h : va_Nw w s) : va_Nw w U := by
  cases w with
  | fieldLinkNest => exact va_Nw.warmF hW h
  | methodLinkNest => exact va_Nw.warmM hW h
  | declares => exact va_Nw.warmD hW h
  | castable => exact va_Nw.warmC hW h
  | _ => cases hb
theorem nw_tab {w : Cond} (hb : nwB w = true) : w.onTables = true := by
  cases w with
  | fieldLinkNest => rfl
  | methodLinkNest => rfl
  | declares => rfl
  | castable => rfl
  | _ => cases hb
def OR (E : Ev) (U : State) : Prop := (∀ (i : Nat) (q : String × Nat × List Int32), oS[i]? = some q → vk_R RX9 q.2.1 q.1 (ad E (1010 + i)) U) ∧ (∀ (i : Nat) (q : Nat × String), oX[i]? = some q → vk_R RX8 q.1 q.2 (ad E (1040 + i)) U) ∧ ∀ w ∈ lw_nest, va_Nw w U
def OL (E : Ev) (U : State) (H : Heap) : Prop := OL1 E U H ∧ OS E U H ∧ OR E U
theorem OS.moved {E : Ev} {u U : State} {H : Heap} (hvm : u.vm.Alike U.vm) (h : OS E u H) : OS E U H := ⟨fun i q hi => ⟨va_O.moved hvm (h.1 i q hi).1, va_OF.moved hvm (h.1 i q hi).2.1, va_OF.moved hvm (h.1 i q hi).2.2.1, va_T.moved hvm (h.1 i q hi).2.2.2⟩, va_Z.moved hvm h.2.1, va_Z.moved hvm h.2.2.1, vx_Zq.moved hvm h.2.2.2.1, vx_Zq.moved hvm h.2.2.2.2⟩
theorem OS.kept {E : Ev} {U : State} {H H1 : Heap} (h : OS E U H) (hq : ∀ a : Nat, a < H.size → ¬ AE E a → H1[a]? = H[a]?) : OS E U H1 := ⟨fun i q hi => ⟨va_O.kept (h.1 i q hi).1 hq, va_OF.kept (h.1 i q hi).2.1 hq, va_OF.kept (h.1 i q hi).2.2.1 hq, va_T.kept (h.1 i q hi).2.2.2 hq⟩, va_Z.kept h.2.1 hq, va_Z.kept h.2.2.1 hq, vx_Zq.kept h.2.2.2.1 hq, vx_Zq.kept h.2.2.2.2 hq⟩
theorem OL.warm {E : Ev} {u U : State} {H : Heap} (hW : u.WarmedH U.vm) (h : OL E u H) : OL E U H := ⟨OL1.moved hW.alike h.1, OS.moved hW.alike h.2.1, fun i q hi => vk_R.warm hW (h.2.2.1 i q hi), fun i q hi => vk_R.warm hW (h.2.2.2.1 i q hi), fun w hw => nw_warm (List.mem_filter.mp hw).2 hW (h.2.2.2.2 w hw)⟩
theorem OL.same {E : Ev} {u U : State} {H : Heap} (hv : U.vm = u.vm) (h : OL E u H) : OL E U H := ⟨OL1.moved (by rw [hv]; exact Vm.Alike.refl _) h.1, OS.moved (by rw [hv]; exact Vm.Alike.refl _) h.2.1, fun i q hi => vk_R.same hv (h.2.2.1 i q hi), fun i q hi => vk_R.same hv (h.2.2.2.1 i q hi), fun w hw => va_Nw.same (nw_tab (List.mem_filter.mp hw).2) hv.symm (h.2.2.2.2 w hw)⟩
theorem OL.kept {E : Ev} {U : State} {H H1 : Heap} (h : OL E U H) (hq : ∀ a : Nat, a < H.size → ¬ AE E a → H1[a]? = H[a]?) : OL E U H1 := ⟨OL1.kept h.1 hq, OS.kept h.2.1 hq, h.2.2⟩
theorem HR.moved {E : Ev} {S : List Sh} {σ : Sg} {u U : State} {H : Heap} (hvm : u.vm.Alike U.vm) (h : HR E S σ u H) : HR E S σ U H := by
  obtain ⟨cA, tys, h1, h2⟩ := h
  exact ⟨cA, tys, va_K.moved hvm h1, h2⟩
