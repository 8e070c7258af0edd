/-! ===== BEGIN new T[n][m]: the outer array a place, the inner ones among the pooled ===== -/
/-- f, but v at every address of l -/
def vr_up {α : Type} (f : Nat → α) (l : List Nat) (v : α) : Nat → α := fun a => if a ∈ l then v else f a
theorem vr_up_in {α : Type} {f : Nat → α} {l : List Nat} {v : α} {a : Nat} (h : a ∈ l) : vr_up f l v a = v := if_pos h
theorem vr_up_ne {α : Type} {f : Nat → α} {l : List Nat} {v : α} {a : Nat} (h : a ∉ l) : vr_up f l v a = f a := if_neg h
theorem vr_rows {L l : List Nat} {f : Nat → va_E} {e : va_E} (h : ∀ a, a ∈ l → a ∉ L) : va_pl L f ++ l.map (fun a => (a, e)) = va_pl (L ++ l) (vr_up f l e) := by
  unfold va_pl
  rw [List.map_append]
  congr 1
  · apply List.map_congr_left
    intro a ha
    rw [vr_up_ne (fun q => h a q ha)]
  · apply List.map_congr_left
    intro a ha
    rw [vr_up_in ha]
theorem vr_lay {X rows : va_W} {x : Nat × va_E} {pl : va_W} {D : va_G} {cl : List vw_C} {H : Heap} (hP : va_P D cl (((X ++ pl) ++ [x]) ++ rows) H) : va_P D cl ((X ++ [x]) ++ (pl ++ rows)) H := by
  rw [List.append_assoc (X ++ pl)] at hP
  have h := va_P.swap hP
  rw [← List.append_assoc X] at h
  have h2 := va_P.swap h
  rw [List.append_assoc (X ++ [x])] at h2
  exact h2
theorem vr_layD {X rows : va_W} {x : Nat × va_E} {pl : va_W} {A : Nat → Prop} (hD : va_D A (((X ++ pl) ++ [x]) ++ rows)) : va_D A ((X ++ [x]) ++ (pl ++ rows)) := by
  rw [List.append_assoc (X ++ pl)] at hD
  have h := va_D.swap hD
  rw [← List.append_assoc X] at h
  have h2 := va_D.swap h
  rw [List.append_assoc (X ++ [x])] at h2
  exact h2
theorem vr_outer (c : ClassId) (N h0 : Nat) : ∀ i : Nat, Jvm.Free.Multi.outerC c N h0 i = arrV c N (fun j => va_rf (if j < i then some (h0 + 1 + j) else none))
  | 0 => by
    show ({ cls := c, slots := Array.replicate N .null, vm := .none } : Cell) = _
    rw [arrV_new]
    refine congrArg (arrV c N) (funext fun j => ?_)
    simp [va_rf]
  | i + 1 => by
    show (Jvm.Free.Multi.outerC c N h0 i).setSlot i (.ref (h0 + 1 + i)) = _
    rw [vr_outer c N h0 i, arrV_store]
    refine congrArg (arrV c N) (funext fun j => ?_)
    by_cases e : j = i
    · subst e
      simp [updV, va_rf]
    · by_cases h : j < i
      · simp [updV, e, h, Nat.lt_succ_of_lt h]
      · simp [updV, e, h, show ¬ j < i + 1 by omega]
section VGM
variable {p : Program} {l : Launch} {e : Env} {R : Room} {s : State} {m : MethodId} {args : Array Value} {below : List Frame} {meth : Method} {c : Code} {H : Heap} {locs : List Loc} {cells slots : Nat} {Q : State → Prop}
variable {cc : ByteArray} {pc : Nat} {ls : Array Slot} {rest : List Value} {D : va_G} {cl : List vw_C} {A : Nat → Prop} {a : Nat} {tys : List (ClassId × FieldType)} {ws : va_W} {H0 : Heap}
theorem va_mna {X : va_W} {L : List Nat} {f : Nat → va_E} {cc : ByteArray} (hexec : p.tables.exec = Jvm.exec) (hb : c.code = cc) {own : String} {index : Nat} {ty : FieldType} {cy : ClassId} (hown : s.vm.findClass own = some m.cls) (hclink : (Cond.classLink own index ("[" ++ (FieldType.array ty).toString)).before args s = true) (hover : va_AOA ty s) (harr : (Cond.arrayClass ty).before args s = true) (hcy : s.vm.findClass (FieldType.array ty).toString = some cy)
    (hK : va_K D cl tys s) (hP : va_P D cl (X ++ va_pl L f) H) (hD : va_D A (X ++ va_pl L f)) (hS : va_S A H0 H locs) (hA : ∀ q, H0.size ≤ q → A q) {n k : Int32} {N' K' : Nat} {z : vp_A} (hn : ¬ n < 0) (hk : ¬ k < 0) (hN : n.toNatClampNeg = N') (hM : k.toNatClampNeg = K')
    (hb1 : N' * 4 ≤ 536870912) (hb2 : K' * componentBytes ty ≤ 536870912) (hb3 : K' ≤ 536870912) (hdf : fits ty (defaultValue ty) = true) (hdd : (defaultValue ty).isDefault = true) (hcells : cells + (1 + N') ≤ R.cells) (hslots : slots + (N' + N' * K') ≤ R.slots) (hz : ∀ c : ClassId, Jvm.Free.Multi.innerC c K' (defaultValue ty) = vp_cell c z) (hdg : decode cc pc = .ok (.multianewarray index 2, 4))
    (kk : ∀ (q : Nat) (r : Nat → Nat) (cA : ClassId) (H1 : Heap), (∀ i j : Nat, i < N' → j < N' → r i = r j → i = j) → (∀ i : Nat, i < N' → r i ∉ L) → va_K D cl (tys ++ [(cA, .array ty)]) s →
      va_P D cl ((X ++ [(q, .inl (cA, N', .inr (.inr (.inr (.inr (fun i => if i < N' then some (r i) else none))))))]) ++ va_pl (L ++ (List.range N').map r) (vr_up f ((List.range N').map r) (.inl (cy, z)))) H1 → va_D A ((X ++ [(q, .inl (cA, N', .inr (.inr (.inr (.inr (fun i => if i < N' then some (r i) else none))))))]) ++ va_pl (L ++ (List.range N').map r) (vr_up f ((List.range N').map r) (.inl (cy, z)))) → va_S A H0 H1 locs →
      W p l e R s m args below meth c H1 locs (cells + 1 + N') (slots + N' + N' * K') Q (F0 m (pc + 4) ls (.ref q :: rest))) : W p l e R s m args below meth c H locs cells slots Q (F0 m pc ls (.int k :: .int n :: rest)) := by
  subst hN
  subst hM
  intro T hT Xs
  obtain ⟨vm₁, cA, comp, -, fA, fC, hO, -, X', step⟩ := Xs.multianewarray2F hexec hown hclink (va_AOA.use hover) harr (g := F0 m pc ls (.int k :: .int n :: rest)) rfl (by rw [hb]; exact hdg) rfl hn hk hb1 hb2 hb3 hdf hdd hcells hslots
  have ec : some cy = some comp := hcy.symm.trans fC
  cases ec
  generalize hF : Jvm.Free.Multi.fill (T.setVm vm₁) cA cy n.toNatClampNeg k.toNatClampNeg (defaultValue ty) n.toNatClampNeg = F at X' step
  have hTh : (T.setVm vm₁).heap = H := hT
  obtain ⟨f1, f2, -, -⟩ := Jvm.Free.Multi.fill_facts (T.setVm vm₁) cA cy n.toNatClampNeg k.toNatClampNeg (defaultValue ty) n.toNatClampNeg
  rw [hF, hTh] at f1 f2
  have hold : ∀ x : Nat, x < H.size → F.heap[x]? = H[x]? := fun x hx => by
    have := Jvm.Free.Multi.fill_old (T.setVm vm₁) cA cy n.toNatClampNeg k.toNatClampNeg (defaultValue ty) (a := x) (by rw [hTh]; exact hx) n.toNatClampNeg
    rw [hF, hTh] at this
    exact this
  have hrow : ∀ j : Nat, j < n.toNatClampNeg → F.heap[H.size + 1 + j]? = some (vp_cell cy z) := fun j hj => by
    have := Jvm.Free.Multi.fill_inner (T.setVm vm₁) cA cy n.toNatClampNeg k.toNatClampNeg (defaultValue ty) n.toNatClampNeg j hj
    rw [hF, hTh, hz] at this
    exact this
  have hout : Jvm.Free.Multi.outerC cA n.toNatClampNeg H.size n.toNatClampNeg = vp_cell cA (n.toNatClampNeg, .inr (.inr (.inr (.inr (fun i => if i < n.toNatClampNeg then some (H.size + 1 + i) else none))))) := by
    rw [vp_cell_q]
    exact vr_outer cA n.toNatClampNeg H.size n.toNatClampNeg
  rw [hout] at f2
  have hlt : ∀ a, a ∈ L → a < H.size := fun a ha => by
    obtain ⟨k9, hk9⟩ := va_pl_get (X := X) (f := f) ha
    exact (hP k9 _ hk9).lt
  have hnl : ∀ i : Nat, i < n.toNatClampNeg → H.size + 1 + i ∉ L := fun i _ h => by
    have := hlt _ h
    omega
  have hnm : ∀ a, a ∈ (List.range n.toNatClampNeg).map (fun i => H.size + 1 + i) → a ∉ L := fun a ha h => by
    obtain ⟨i, -, rfl⟩ := List.mem_map.mp ha
    have := hlt _ h
    omega
  have hP0 : va_P D cl (X ++ va_pl L f) F.heap := hP.kept (fun k9 x hx => hold x.1 ((hP k9 x hx).lt))
  have hP1 : va_P D cl ((X ++ va_pl L f) ++ [(H.size, .inl (cA, n.toNatClampNeg, .inr (.inr (.inr (.inr (fun i => if i < n.toNatClampNeg then some (H.size + 1 + i) else none))))))]) F.heap := hP0.app (fun k9 x hx => by
    have h0 : k9 < 1 := (List.getElem?_eq_some_iff.mp hx).1
    rw [show k9 = 0 by omega] at hx
    cases hx
    exact f2)
  have hP2 : va_P D cl (((X ++ va_pl L f) ++ [(H.size, .inl (cA, n.toNatClampNeg, .inr (.inr (.inr (.inr (fun i => if i < n.toNatClampNeg then some (H.size + 1 + i) else none))))))]) ++ ((List.range n.toNatClampNeg).map (fun i => H.size + 1 + i)).map (fun a => (a, .inl (cy, z)))) F.heap := hP1.app (fun k9 x hx => by
    obtain ⟨a, ha, rfl⟩ := List.mem_map.mp (List.mem_of_getElem? hx)
    obtain ⟨i, hi, rfl⟩ := List.mem_map.mp ha
    exact hrow i (List.mem_range.mp hi))
  have hD2 : va_D A (((X ++ va_pl L f) ++ [(H.size, .inl (cA, n.toNatClampNeg, .inr (.inr (.inr (.inr (fun i => if i < n.toNatClampNeg then some (H.size + 1 + i) else none))))))]) ++ ((List.range n.toNatClampNeg).map (fun i => H.size + 1 + i)).map (fun a => (a, .inl (cy, z)))) := by
    have hD1 := hD.push (e := .inl (cA, n.toNatClampNeg, .inr (.inr (.inr (.inr (fun i => if i < n.toNatClampNeg then some (H.size + 1 + i) else none)))))) hP rfl (hA _ hS.1)
    generalize hW1 : (X ++ va_pl L f) ++ [(H.size, .inl (cA, n.toNatClampNeg, .inr (.inr (.inr (.inr (fun i => if i < n.toNatClampNeg then some (H.size + 1 + i) else none))))))] = W1 at hD1 hP1 ⊢
    have hle : ∀ (k9 : Nat) (x : Nat × va_E), W1[k9]? = some x → x.1 ≤ H.size := fun k9 x hx => by
      rw [← hW1] at hx
      by_cases hl : k9 < (X ++ va_pl L f).length
      · rw [List.getElem?_append_left hl] at hx
        exact Nat.le_of_lt ((hP k9 x hx).lt)
      · rw [List.getElem?_append_right (by omega)] at hx
        have h0 : k9 - (X ++ va_pl L f).length < 1 := (List.getElem?_eq_some_iff.mp hx).1
        rw [show k9 - (X ++ va_pl L f).length = 0 by omega] at hx
        cases hx
        exact Nat.le_refl _
    have hr : ∀ (k9 : Nat) (x : Nat × va_E), (((List.range n.toNatClampNeg).map (fun i => H.size + 1 + i)).map (fun a => ((a, .inl (cy, z)) : Nat × va_E)))[k9]? = some x → x.1 = H.size + 1 + k9 := fun k9 x hx => by
      rw [List.getElem?_map, List.getElem?_map] at hx
      by_cases h9 : k9 < n.toNatClampNeg
      · rw [List.getElem?_range h9] at hx
        cases hx
        rfl
      · have hn0 : (List.range n.toNatClampNeg)[k9]? = none := List.getElem?_eq_none (by rw [List.length_range]; omega)
        rw [hn0] at hx
        cases hx
    refine ⟨fun i j x y hi hj hxy => ?_, fun k9 x hx => ?_⟩
    · by_cases h1 : i < W1.length <;> by_cases h2 : j < W1.length
      · rw [List.getElem?_append_left h1] at hi
        rw [List.getElem?_append_left h2] at hj
        exact hD1.1 i j x y hi hj hxy
      · rw [List.getElem?_append_left h1] at hi
        rw [List.getElem?_append_right (by omega)] at hj
        have := hle _ _ hi
        have := hr _ _ hj
        omega
      · rw [List.getElem?_append_right (by omega)] at hi
        rw [List.getElem?_append_left h2] at hj
        have := hle _ _ hj
        have := hr _ _ hi
        omega
      · rw [List.getElem?_append_right (by omega)] at hi hj
        have := hr _ _ hi
        have := hr _ _ hj
        omega
    · by_cases h1 : k9 < W1.length
      · rw [List.getElem?_append_left h1] at hx
        exact hD1.2 k9 x hx
      · rw [List.getElem?_append_right (by omega)] at hx
        have := hr _ _ hx
        exact hA _ (by have := hS.1; omega)
  have hAr : ArrOfT s cA (.array ty) := fun N9 z9 => by
    obtain ⟨-, k9, hk9, cm9, hkk9⟩ := (hO 0 0 0).1
    exact ⟨(fun q hq => by cases hq), k9, hk9, cm9, hkk9⟩
  have hK2 : va_K D cl (tys ++ [(cA, .array ty)]) s := ⟨hK.1, fun k9 x hx => by
    by_cases hl : k9 < tys.length
    · rw [List.getElem?_append_left hl] at hx
      exact hK.2 k9 x hx
    · rw [List.getElem?_append_right (by omega)] at hx
      have h0 : k9 - tys.length < 1 := (List.getElem?_eq_some_iff.mp hx).1
      rw [show k9 - tys.length = 0 by omega] at hx
      cases hx
      exact ⟨hAr, fA⟩⟩
  obtain ⟨t, a1, b1⟩ := kk H.size (fun i => H.size + 1 + i) cA F.heap (fun i j _ _ h => by have h9 : H.size + 1 + i = H.size + 1 + j := h; omega) hnl hK2 (by rw [← vr_rows hnm]; exact vr_lay hP2) (by rw [← vr_rows hnm]; exact vr_layD hD2) ⟨by rw [f1]; have := hS.1; omega, fun x h1 h2 => (hold x (Nat.lt_of_lt_of_le h1 hS.1)).trans (hS.2.1 x h1 h2), hS.2.2⟩ F rfl X'
  refine ⟨t, step t ?_, b1⟩
  have e : T.heap.size = H.size := by rw [hT]
  rw [e]
  exact a1
end VGM
/-! ===== END ===== -/

/-! ===== new int[9][21] ===== -/
def mnaS (n : Nat) : List Sh := .inr (.inr (.inr (.array .int, (List.range 9).map (fun i => some (n + 1 + i))))) :: List.replicate 9 (.inr (.inl (.int, 21)))
def mnaG (σ : Sg) (n : Nat) : Sg := (List.range 10).foldl (fun z i => zi z (n + i)) σ
/-- cells at the end, several -/
theorem HR_app {E E' : Ev} {S T : List Sh} {σ σ' : Sg} {U : State} {H1 : Heap} {cA cA' : Nat → ClassId} {tys tys' : List (ClassId × FieldType)} (hcl : Cl S) (hX : Ext E E' S.length) (hσ : ∀ k, k < S.length → gi σ' k = gi σ k ∧ gl σ' k = gl σ k ∧ cA' k = cA k) (hK : va_K E.2.1 vwCl tys' U) (hT : ∀ (k : Nat) (x : Sh) (ty : FieldType), S[k]? = some x → tyS x = some ty → ∃ t0 : Nat, tys[t0]? = some (cA k, ty)) (htys : ∀ (t0 : Nat) (z : ClassId × FieldType), tys[t0]? = some z → tys'[t0]? = some z) (hN : ∀ (i : Nat) (x : Sh) (ty : FieldType), T[i]? = some x → tyS x = some ty → ∃ t0 : Nat, tys'[t0]? = some (cA' (S.length + i), ty)) (hbs : E.2.2.2 ≤ H1.size)
    {W : va_W} (hW : W = wsO E cA σ S ++ T.mapIdx (fun i x => (ad E' (S.length + i), ent E' cA' σ' (S.length + i) x))) (hP : va_P E.2.1 vwCl W H1) (hD : va_D (AE E) W) : HR E' (S ++ T) σ' U H1 := by
  have hws : wsO E' cA' σ' (S ++ T) = W := by
    rw [hW]
    apply List.ext_getElem?
    intro k
    have hlen : (wsO E cA σ S).length = S.length := by unfold wsO; simp
    by_cases hk : k < S.length
    · rw [List.getElem?_append_left (by omega)]
      unfold wsO
      rw [List.getElem?_mapIdx, List.getElem?_mapIdx, List.getElem?_append_left hk]
      cases hy : S[k]? with
      | none => rfl
      | some y =>
        show some (_, _) = some (_, _)
        rw [hX.2.2.2 k (Or.inl hk), ent_ext hX (cA := cA) (σ := σ) (hσ k hk).1 (hσ k hk).2.1 (hσ k hk).2.2 (hcl.2 k y hy)]
    · rw [List.getElem?_append_right (by omega), hlen]
      unfold wsO
      rw [List.getElem?_mapIdx, List.getElem?_mapIdx, List.getElem?_append_right (by omega)]
      have e : S.length + (k - S.length) = k := by omega
      cases hy : T[k - S.length]? with
      | none => rfl
      | some y =>
        show some (_, _) = some (_, _)
        rw [e]
  refine ⟨cA', tys', by rw [hX.2.1]; exact hK, by rw [hX.2.1, hws]; exact hP, ?_, ?_, by rw [hX.2.2.1]; exact hbs⟩
  · intro k y ty hy hty
    by_cases hk : k < S.length
    · rw [List.getElem?_append_left hk] at hy
      obtain ⟨t0, h0⟩ := hT k y ty hy hty
      exact ⟨t0, by rw [(hσ k hk).2.2]; exact htys t0 _ h0⟩
    · rw [List.getElem?_append_right (by omega)] at hy
      obtain ⟨t0, h0⟩ := hN _ y ty hy hty
      have e : S.length + (k - S.length) = k := by omega
      rw [e] at h0
      exact ⟨t0, h0⟩
  · rw [← hws] at hD
    have key : ∀ i, i < (S ++ T).length → ∃ z, (wsO E' cA' σ' (S ++ T))[i]? = some (ad E' i, z) := fun i hi => ⟨_, ws_at (List.getElem?_eq_getElem hi)⟩
    constructor
    · intro i j hi hj hij
      obtain ⟨z1, h1⟩ := key i hi
      obtain ⟨z2, h2⟩ := key j hj
      exact hD.1 i j _ _ h1 h2 hij
    · intro i hi
      obtain ⟨z1, h1⟩ := key i hi
      show E'.2.2.2 ≤ ad E' i
      rw [hX.2.2.1]
      exact hD.2 i _ h1
theorem gi_mnaG_lt {σ : Sg} {n k : Nat} (h : k < n) : gi (mnaG σ n) k = gi σ k ∧ gl (mnaG σ n) k = gl σ k := by
  show gi (zi (zi (zi (zi (zi (zi (zi (zi (zi (zi σ (n + 0)) (n + 1)) (n + 2)) (n + 3)) (n + 4)) (n + 5)) (n + 6)) (n + 7)) (n + 8)) (n + 9)) k = _ ∧ gl (zi (zi (zi (zi (zi (zi (zi (zi (zi (zi σ (n + 0)) (n + 1)) (n + 2)) (n + 3)) (n + 4)) (n + 5)) (n + 6)) (n + 7)) (n + 8)) (n + 9)) k = _
  constructor
  · rw [gi_zi_ne (by omega), gi_zi_ne (by omega), gi_zi_ne (by omega), gi_zi_ne (by omega), gi_zi_ne (by omega), gi_zi_ne (by omega), gi_zi_ne (by omega), gi_zi_ne (by omega), gi_zi_ne (by omega), gi_zi_ne (by omega)]
  · rw [gl_zi_ne (by omega), gl_zi_ne (by omega), gl_zi_ne (by omega), gl_zi_ne (by omega), gl_zi_ne (by omega), gl_zi_ne (by omega), gl_zi_ne (by omega), gl_zi_ne (by omega), gl_zi_ne (by omega), gl_zi_ne (by omega)]
theorem gi_zi_z {σ : Sg} {n k : Nat} (h : gi σ k = fun _ => 0) : gi (zi σ n) k = fun _ => 0 := by
  by_cases hk : k = n
  · rw [hk, gi_zi]
  · rw [gi_zi_ne hk, h]
theorem gi_mnaG_in {σ : Sg} {n i : Nat} (hi : i < 10) : gi (mnaG σ n) (n + i) = fun _ => 0 := by
  have key : ∀ (l : List Nat) (τ : Sg), (i ∈ l ∨ gi τ (n + i) = fun _ => 0) → gi (l.foldl (fun z j => zi z (n + j)) τ) (n + i) = fun _ => 0 := by
    intro l
    induction l with
    | nil => intro τ h; rcases h with h | h
             · cases h
             · exact h
    | cons a t ih =>
      intro τ h
      apply ih
      rcases h with h | h
      · rcases List.mem_cons.mp h with rfl | h
        · exact Or.inr (gi_zi _ _)
        · exact Or.inl h
      · exact Or.inr (gi_zi_z h)
  exact key (List.range 10) σ (Or.inl (List.mem_range.mpr hi))
theorem r_mna {E : Ev} {Z : Zx} {cc : ByteArray} {ret : Option FieldType} {nL d mc ms cells slots : Nat} {S : List Sh} {σ : Sg} {pc : Nat} {lv : List (Nat × Value)} {st : List Value} (C : Ctx E Z RX7 cc ret nL d mc ms) (hNm : Nm Z) {k0 n0 : Nat} (hI : S[k0]? = some (.inr (.inl (.int, n0)))) (hw1 : Cond.classLink RX7 21 "[[I" ∈ lw_good) (hw2 : Cond.arrayClass .int ∈ lw_good) (hcl : Cl S) (hl : S.length + 10 < 900) (hok : okV S.length lv st) (hc : cells + 10 ≤ mc) (hs : slots + 198 ≤ ms) (hd : decode cc pc = .ok (.multianewarray 21 2, 4)) {pc' : Nat} (hp : pc + 4 = pc')
    (kk : ∀ E' : Ev, Ext E E' S.length → Ctx E' Z RX7 cc ret nL d mc ms → Wm E' Z (cells + 10) (slots + 198) (S ++ mnaS S.length) (mnaG σ S.length) pc' lv (.ref S.length :: st)) : Wm E Z cells slots S σ pc lv (.int 21 :: .int 9 :: st) := by
  subst hp
  have C' := C
  obtain ⟨⟨p, e, s, m, args, below, meth, c⟩, R, nL', Q⟩ := Z
  obtain ⟨hx, hb0, hr, hlocks, hml, rfl, rfl, hown, hts, hO, hbase⟩ := C
  intro H locs ls h1 h2 h3
  obtain ⟨cA, tys, hK, hP, hT, hlen, hbs⟩ := h1
  have hA : ∀ q, s.heap.size ≤ q → AE E q := fun q h => Nat.le_trans hbase h
  obtain ⟨t0, ht0⟩ := hT k0 _ _ hI rfl
  have hcy : s.vm.findClass (FieldType.array .int).toString = some (cA k0) := (hK.2 t0 _ ht0).2
  have hnil : ∀ f : Nat → va_E, wsO E cA σ S ++ va_pl [] f = wsO E cA σ S := fun f => by simp [va_pl]
  refine va_mna (X := wsO E cA σ S) (L := []) (f := fun _ => .inr (0, [])) (ty := .int) (cy := cA k0) (N' := 9) (K' := 21) (z := (21, .inl (fun _ => 0))) hx hb0 hown (hts _ hw1) hNm.2.2 (hts _ hw2) hcy hK (by rw [hnil]; exact hP) (by rw [hnil]; exact ws_D hlen) h2 hA (by decide) (by decide) (by decide) (by decide) (by decide) (by decide) (by decide) (by decide) (by decide) hc hs (fun _ => rfl) hd (fun q r cN H1 hinj _ g1 g2 g3 g4 => ?_)
  generalize hn : S.length = n at *
  let E' : Ev := (E.1, E.2.1, fun k => if k = n then q else if n < k ∧ k < n + 10 then r (k - n - 1) else E.2.2.1 k, E.2.2.2)
  let cA' : Nat → ClassId := fun k => if k < n then cA k else if k = n then cN else cA k0
  have a0 : ad E' n = q := if_pos rfl
  have ai : ∀ i, i < 9 → ad E' (n + 1 + i) = r i := by
    intro i hi
    show (if n + 1 + i = n then q else if n < n + 1 + i ∧ n + 1 + i < n + 10 then r (n + 1 + i - n - 1) else E.2.2.1 (n + 1 + i)) = r i
    rw [if_neg (by omega), if_pos ⟨by omega, by omega⟩]
    congr 1
    omega
  have hX : Ext E E' n := ⟨rfl, rfl, rfl, fun k hk => by
    show (if k = n then q else if n < k ∧ k < n + 10 then r (k - n - 1) else E.2.2.1 k) = E.2.2.1 k
    rw [if_neg (by omega), if_neg (by omega)]⟩
  have e0 : ent E' cA' (mnaG σ n) n (.inr (.inr (.inr (.array .int, (List.range 9).map (fun i => some (n + 1 + i)))))) = .inl (cN, 9, .inr (.inr (.inr (.inr (fun i => if i < 9 then some (r i) else none))))) := by
    show (Sum.inl (cA' n, ((List.range 9).map (fun i => some (n + 1 + i))).length, Sum.inr (Sum.inr (Sum.inr (Sum.inr (fun j => (((List.range 9).map (fun i => some (n + 1 + i))).getD j none).map (ad E')))))) : va_E) = _
    have c0 : cA' n = cN := by
      show (if n < n then cA n else if n = n then cN else cA k0) = cN
      rw [if_neg (by omega), if_pos rfl]
    have f0 : (fun j => (((List.range 9).map (fun i => some (n + 1 + i))).getD j none).map (ad E')) = (fun i => if i < 9 then some (r i) else none) := by
      funext j
      rw [List.getD_eq_getElem?_getD, List.getElem?_map]
      by_cases hj : j < 9
      · rw [List.getElem?_range hj, if_pos hj]
        show some (ad E' (n + 1 + j)) = some (r j)
        rw [ai j hj]
      · rw [List.getElem?_eq_none (by simp; omega), if_neg hj]
        rfl
    rw [c0, f0]
    rfl
  have ei : ∀ i, i < 9 → ent E' cA' (mnaG σ n) (n + 1 + i) (.inr (.inl (.int, 21))) = .inl (cA k0, 21, .inl (fun _ => 0)) := by
    intro i hi
    show (Sum.inl (cA' (n + 1 + i), 21, Sum.inl (gi (mnaG σ n) (n + 1 + i))) : va_E) = _
    have c0 : cA' (n + 1 + i) = cA k0 := by
      show (if n + 1 + i < n then cA (n + 1 + i) else if n + 1 + i = n then cN else cA k0) = cA k0
      rw [if_neg (by omega), if_neg (by omega)]
    rw [c0, show n + 1 + i = n + (1 + i) by omega, gi_mnaG_in (by omega)]
  have hk2 := kk E' hX (Ctx_ext hX C') H1 locs ls (HR_app (T := mnaS n) (cA' := cA') (σ' := mnaG σ n) hcl (by rw [hn]; exact hX) (fun k hk => by
      rw [hn] at hk
      exact ⟨(gi_mnaG_lt hk).1, (gi_mnaG_lt hk).2, if_pos hk⟩) g1 hT (fun t0 z hz => by rw [List.getElem?_append_left (lt_of_get hz)]; exact hz) (fun i x ty hx hty => by
      rw [hn]
      match i, hx with
      | 0, hx =>
        obtain rfl := Option.some.inj hx
        obtain rfl := Option.some.inj hty
        refine ⟨tys.length, ?_⟩
        rw [List.getElem?_append_right (Nat.le_refl _), Nat.sub_self]
        show some (cN, FieldType.array .int) = some (cA' n, .array .int)
        have c0 : cA' n = cN := by
          show (if n < n then cA n else if n = n then cN else cA k0) = cN
          rw [if_neg (by omega), if_pos rfl]
        rw [c0]
      | i + 1, hx =>
        have hx2 : (List.replicate 9 (Sum.inr (Sum.inl (FieldType.int, 21)) : Sh))[i]? = some x := hx
        rw [List.getElem?_replicate] at hx2
        split at hx2
        · obtain rfl := Option.some.inj hx2
          obtain rfl := Option.some.inj hty
          refine ⟨t0, ?_⟩
          rw [List.getElem?_append_left (lt_of_get ht0), ht0]
          have c0 : cA' (n + (i + 1)) = cA k0 := by
            show (if n + (i + 1) < n then cA (n + (i + 1)) else if n + (i + 1) = n then cN else cA k0) = cA k0
            rw [if_neg (by omega), if_neg (by omega)]
          rw [c0]
        · cases hx2) (Nat.le_trans hbase g4.1) ?_ g2 g3) (by rw [AE_ext hX]; exact g4) (by rw [lv_ext hX hok.1]; exact h3)
  · have e2 : (Value.ref n :: st).map (tr E') = .ref q :: st.map (tr E) := by
      rw [List.map_cons, st_ext hX hok.2]
      congr 1
      show Value.ref (ad E' n) = _
      rw [a0]
    rw [e2] at hk2
    exact hk2
  · rw [hn, List.append_assoc]
    congr 1
    have mem : ∀ i, i < 9 → r i ∈ ([] : List Nat) ++ (List.range 9).map r := fun i hi => List.mem_append_right _ (List.mem_map.mpr ⟨i, List.mem_range.mpr hi, rfl⟩)
    apply List.ext_getElem?
    intro k
    match k with
    | 0 =>
      show some (q, _) = some (ad E' (n + 0), ent E' cA' (mnaG σ n) (n + 0) _)
      rw [Nat.add_zero, a0, e0]
    | k + 1 =>
      show (va_pl (([] : List Nat) ++ (List.range 9).map r) _)[k]? = _
      rw [List.getElem?_mapIdx]
      have hm : (mnaS n)[k + 1]? = (List.replicate 9 (Sum.inr (Sum.inl (FieldType.int, 21)) : Sh))[k]? := rfl
      rw [hm, List.getElem?_replicate]
      unfold va_pl
      rw [List.nil_append, List.map_map, List.getElem?_map]
      by_cases hk : k < 9
      · rw [List.getElem?_range hk, if_pos hk]
        show some (r k, vr_up _ _ _ (r k)) = some (ad E' (n + (k + 1)), ent E' cA' (mnaG σ n) (n + (k + 1)) _)
        rw [show n + (k + 1) = n + 1 + k by omega, ai k hk, ei k hk, vr_up_in (by simpa using ⟨k, hk, rfl⟩)]
      · rw [List.getElem?_eq_none (by simp; omega), if_neg hk]
        rfl
