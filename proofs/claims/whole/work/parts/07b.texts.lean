/-! ===== String constants, the statics of the JDK ===== -/
section Texts
variable {E : Ev} {Z : Zx} {own : String} {cc : ByteArray} {ret : Option FieldType} {nL d mc ms cells slots : Nat} {S S' : List Sh} {σ σ' : Sg} {pc : Nat} {lv : List (Nat × Value)} {st stk : List Value}
theorem r_ldcS (C : Ctx E Z RX9 cc ret nL d mc ms) {i index : Nat} {tx : String} {l : List Int32} (hq : oS[i]? = some (tx, index, l)) (hd : decode cc pc = .ok (.ldc index, 2)) {pc' : Nat} (hp : pc + 2 = pc') (k : Wm E Z cells slots S σ pc' lv (.ref (1010 + i) :: st)) : Wm E Z cells slots S σ pc lv st := by
  subst hp
  obtain ⟨⟨p, e, s, m, args, below, meth, c⟩, R, nL', Q⟩ := Z
  obtain ⟨hx, hb, hr, hlocks, hml, rfl, rfl, hown, hts, hO, hbase⟩ := C
  exact fun H locs ls h1 h2 h3 => va_ldcS hx hb hown (hO.2.2.1 i _ hq) hd (k H locs ls h1 h2 h3)
theorem r_ldcwS (C : Ctx E Z RX9 cc ret nL d mc ms) {i index : Nat} {tx : String} {l : List Int32} (hq : oS[i]? = some (tx, index, l)) (hd : decode cc pc = .ok (.ldc_w index, 3)) {pc' : Nat} (hp : pc + 3 = pc') (k : Wm E Z cells slots S σ pc' lv (.ref (1010 + i) :: st)) : Wm E Z cells slots S σ pc lv st := by
  subst hp
  obtain ⟨⟨p, e, s, m, args, below, meth, c⟩, R, nL', Q⟩ := Z
  obtain ⟨hx, hb, hr, hlocks, hml, rfl, rfl, hown, hts, hO, hbase⟩ := C
  intro H locs ls h1 h2 h3 T hT X
  obtain ⟨t, a1, b1⟩ := k H locs ls h1 h2 h3 T hT X
  exact ⟨t, X.ldcStringW hx hown (hO.2.2.1 i _ hq).1 (hO.2.2.1 i _ hq).2 (g := F0 m pc ls (st.map (tr E))) rfl (by rw [hb]; exact hd) t a1, b1⟩
theorem r_strV (C : Ctx E Z own cc ret nL d mc ms) {i idx : Nat} {q : String × Nat × List Int32} (hq : oS[i]? = some q) (hl : Cond.fieldLink own idx "java/lang/String" "value" "[B" ∈ lw_good) (hd : decode cc pc = .ok (.getfield idx, 3)) {pc' : Nat} (hp : pc + 3 = pc') (k : Wm E Z cells slots S σ pc' lv (.ref (1020 + i) :: st)) : Wm E Z cells slots S σ pc lv (.ref (1010 + i) :: st) := by
  subst hp
  obtain ⟨⟨p, e, s, m, args, below, meth, c⟩, R, nL', Q⟩ := Z
  obtain ⟨hx, hb, hr, hlocks, hml, rfl, rfl, hown, hts, hO, hbase⟩ := C
  exact fun H locs ls h1 h2 h3 => vk_getf hx hb (hO.2.1.1 i _ hq).2.2.1 h2 hown (hts _ hl) (fun _ h => h) hd (k H locs ls h1 h2 h3)
theorem r_strC (C : Ctx E Z own cc ret nL d mc ms) {i idx : Nat} {q : String × Nat × List Int32} (hq : oS[i]? = some q) (hl : Cond.fieldLink own idx "java/lang/String" "coder" "B" ∈ lw_good) (hd : decode cc pc = .ok (.getfield idx, 3)) {pc' : Nat} (hp : pc + 3 = pc') (k : Wm E Z cells slots S σ pc' lv (.int 0 :: st)) : Wm E Z cells slots S σ pc lv (.ref (1010 + i) :: st) := by
  subst hp
  obtain ⟨⟨p, e, s, m, args, below, meth, c⟩, R, nL', Q⟩ := Z
  obtain ⟨hx, hb, hr, hlocks, hml, rfl, rfl, hown, hts, hO, hbase⟩ := C
  exact fun H locs ls h1 h2 h3 => vk_getf hx hb (hO.2.1.1 i _ hq).2.1 h2 hown (hts _ hl) (fun _ h => h) hd (k H locs ls h1 h2 h3)
theorem r_getCS (C : Ctx E Z own cc ret nL d mc ms) {idx : Nat} (hl : Cond.fieldLink own idx "java/lang/String" "COMPACT_STRINGS" "Z" ∈ lw_good) (hd : decode cc pc = .ok (.getstatic idx, 3)) {pc' : Nat} (hp : pc + 3 = pc') (k : Wm E Z cells slots S σ pc' lv (.int 1 :: st)) : Wm E Z cells slots S σ pc lv st := by
  subst hp
  obtain ⟨⟨p, e, s, m, args, below, meth, c⟩, R, nL', Q⟩ := Z
  obtain ⟨hx, hb, hr, hlocks, hml, rfl, rfl, hown, hts, hO, hbase⟩ := C
  exact fun H locs ls h1 h2 h3 => va_gets hx hb hO.2.1.2.1 h2 hown (hts _ hl) (fun _ h => h) hd (k H locs ls h1 h2 h3)
theorem r_getSI (C : Ctx E Z own cc ret nL d mc ms) {idx : Nat} (hl : Cond.fieldLink own idx "jdk/internal/util/Preconditions" "SIOOBE_FORMATTER" "Ljava/util/function/BiFunction;" ∈ lw_good) (hd : decode cc pc = .ok (.getstatic idx, 3)) {pc' : Nat} (hp : pc + 3 = pc') (k : Wm E Z cells slots S σ pc' lv (sio E :: st)) : Wm E Z cells slots S σ pc lv st := by
  subst hp
  obtain ⟨⟨p, e, s, m, args, below, meth, c⟩, R, nL', Q⟩ := Z
  obtain ⟨hx, hb, hr, hlocks, hml, rfl, rfl, hown, hts, hO, hbase⟩ := C
  exact fun H locs ls h1 h2 h3 => va_gets hx hb hO.2.1.2.2.1 h2 hown (hts _ hl) (fun _ h => h) hd (k H locs ls h1 h2 h3)
theorem r_oldB (C : Ctx E Z own cc ret nL d mc ms) {j : Nat} {q : String × Nat × List Int32} {i x : Int32} (hq : oS[j]? = some q) (hi : vp_in i q.2.2.length) (hv : q.2.2.getD i.toNatClampNeg 0 = x) (hd : decode cc pc = .ok (.baload, 1)) {pc' : Nat} (hp : pc + 1 = pc') (kk : Wm E Z cells slots S σ pc' lv (.int x :: st)) : Wm E Z cells slots S σ pc lv (.int i :: .ref (1020 + j) :: st) := by
  subst hp
  obtain ⟨⟨p, e, s, m, args, below, meth, c⟩, R, nL', Q⟩ := Z
  obtain ⟨hx, hb, hr, hlocks, hml, rfl, rfl, hown, hts, hO, hbase⟩ := C
  exact fun H locs ls h1 h2 h3 => va_tb hx hb (hO.2.1.1 j _ hq).2.2.2 h2 hi (v := .int x) (by show Value.int (q.2.2.getD i.toNatClampNeg 0) = _; rw [hv]) hd (kk H locs ls h1 h2 h3)
theorem r_oldBL (C : Ctx E Z own cc ret nL d mc ms) {j : Nat} {q : String × Nat × List Int32} {v : Int32} (hq : oS[j]? = some q) (hv : Int32.ofNat q.2.2.length = v) (hd : decode cc pc = .ok (.arraylength, 1)) {pc' : Nat} (hp : pc + 1 = pc') (kk : Wm E Z cells slots S σ pc' lv (.int v :: st)) : Wm E Z cells slots S σ pc lv (.ref (1020 + j) :: st) := by
  subst hp
  obtain ⟨⟨p, e, s, m, args, below, meth, c⟩, R, nL', Q⟩ := Z
  obtain ⟨hx, hb, hr, hlocks, hml, rfl, rfl, hown, hts, hO, hbase⟩ := C
  exact fun H locs ls h1 h2 h3 => va_tlen hx hb (hO.2.1.1 j _ hq).2.2.2 h2 hv hd (kk H locs ls h1 h2 h3)
variable {idx d' n maxL mc' ms' : Nat} {y : MethodName} {bytes : ByteArray} {ret' : Option FieldType} {b ci : Nat} {As : List Value} {rv : Option Value}
theorem r_sV1 {v : Value} {i : Nat} {q : String × Nat × List Int32} (C : Ctx E Z own cc ret nL d mc ms) (hM : Cm E d' y bytes maxL ret' (.ref (1010 + i) :: As) S S σ σ' (some v) 0 0) (hl : Cond.methodLink own idx y ∈ lw_good) (hc : Ce y bytes maxL ret' n) (hv : CeV y) (hS : oS[i]? = some q) (hqc : y.cls = "java/lang/String") (hn : As.length = n) (hdd : d' + 1 ≤ d) (hst : stk = As.reverse ++ .ref (1010 + i) :: st) (hW : (st.map fun v => v.category).sum ≤ 8) (hf : cells ≤ mc ∧ slots ≤ ms) (hd : decode cc pc = .ok (.invokevirtual idx, 3)) {pc' : Nat} (hp : pc + 3 = pc')
    (kk : Wm E Z cells slots S σ' pc' lv (v :: st)) : Wm E Z cells slots S σ pc lv stk := by
  subst hp
  obtain ⟨⟨p, e, s, m, args, below, meth, c⟩, R, nL', Q⟩ := Z
  obtain ⟨hx, hb, hr, hlocks, hml, rfl, rfl, hown, hts, hO, hbase⟩ := C
  obtain ⟨c1, c2, c3, c4⟩ := hc
  intro H locs ls h1 h2 h3
  obtain ⟨cell, g1, g2, g3, -⟩ := (hO.2.1.1 i q hS).1.kept h2.2.1
  have hrec : ∃ cell : Cell, H[ad E (1010 + i)]? = some cell ∧ cell.vm.isStatics = false ∧ s.vm.findClass y.cls = some cell.cls := ⟨cell, g1, g2, by rw [hqc]; exact g3⟩
  refine c_back (H := H) (locs := locs) (mc' := 0) (ms' := 0) (a := (Value.ref (ad E (1010 + i)) :: As.map (tr E)).toArray) rfl (va_runV (As := As.map (tr E)) (C := y.cls) (b := ad E (1010 + i)) ⟨hx, hb, hml, hown, hts⟩ hM (cwV n hts ?_ rfl rfl rfl ⟨rfl, c3⟩ (c_room hdd c4)) ⟨?_, hrec, ?_⟩ rfl (by rw [List.length_map]; exact hn) h3.1 ?_ ?_ hd hf) hbase h2 h3 kk
  · intro w hw
    rcases List.mem_append.mp hw with hw | hw
    · simp only [List.mem_cons, List.not_mem_nil, or_false] at hw
      rcases hw with rfl | rfl | rfl | rfl
      · exact good_all _ hl
      · exact good_all _ hv.1
      · exact good_all _ hv.2
      · exact good_all _ c1
    · exact cw_good c2 w hw
  · intro a U g mk hq
    exact ⟨hq.1, hq.2.1.moved (u := U) (U := U.calling g mk a) (Vm.Alike.refl U.vm), hq.2.2.same (u := U) (U := U.calling g mk a) rfl⟩
  · intro U hU hW
    exact ⟨rfl, c_pre h1 h2 hO hU hW⟩
  · show stk.map (tr E) = _
    rw [hst]
    simp [tr]
  · show 2 * 0 + ((st.map (tr E)).map fun v => v.category).sum ≤ 8
    rw [c_cat]
    omega
theorem sio_cat (E : Ev) : (sio E).category = 1 := by
  unfold sio
  split <;> rfl
theorem hn_sio {a b : Int32} : (lg_sl [.int a, .int b, sio E]).length ≤ 3 := by
  unfold sio
  split <;> exact Nat.le_of_ble_eq_true rfl
end Texts
