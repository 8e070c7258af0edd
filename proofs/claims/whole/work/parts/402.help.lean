/-! ===== the law's helpers: a call that may throw, caught ===== -/
def TabZ (Z : Zx) (hh : List (Nat × Nat × Nat × Nat)) : Prop :=
  match Z with
  | ((_, _, _, _, _, _, _, c), _, _, _) => c.exceptionTable.toList = tableOf hh
/-- a method with an exception table that returns -/
def Cw (E : Ev) (d : Nat) (y : MethodName) (cc : ByteArray) (nL : Nat) (ret : Option FieldType) (hh : List (Nat × Nat × Nat × Nat)) (av : List Value) (S S' : List Sh) (σ σ' : Sg) (rv : Option Value) (mc ms : Nat) : Prop :=
  Met E.1 y (Cond.codeWith y cc nL ret hh :: lw_good) (rmD d mc ms) (fun a U => a = (av.map (tr E)).toArray ∧ HR E S σ U U.heap ∧ OL E U U.heap) (QcE E S' σ' rv) mc ms (AE E)
theorem Cw.intro {E : Ev} {d : Nat} {y : MethodName} {cc : ByteArray} {nL : Nat} {ret : Option FieldType} {hh : List (Nat × Nat × Nat × Nat)} {av : List Value} {S S' : List Sh} {σ σ' : Sg} {rv : Option Value} {mc ms : Nat} (hy : plainName y.cls = true) (hn : (lg_sl av).length ≤ nL)
    (h : ∀ Z : Zx, Ctx E Z y.cls cc ret nL d mc ms → TabZ Z hh → En E Z S' σ' rv mc ms → Wm E Z 0 0 S σ 0 (lv_args 0 av) []) : Cw E d y cc nL ret hh av S S' σ σ' rv mc ms := by
  have key : vx_Met E.1 y (Cond.codeWith y cc nL ret hh :: lw_good) (rmD d mc ms) (fun a U => a = (av.map (tr E)).toArray ∧ HR E S σ U U.heap ∧ OL E U U.heap) (QcE E S' σ' rv) (fun _ _ _ => False) mc ms (AE E) := by
    refine vx_ofWH (cc := cc) (maxL := nL) (ret := ret) (hh := hh) hy rfl ?_
    intro p e s m args below meth c s₁ B hml hv
    obtain ⟨rfl, hH, hO⟩ := hv
    have hts := atoms_spec (ws := Cond.codeWith y cc nL ret hh :: lw_good) B.pre
    have hown : s.vm.findClass y.cls = some m.cls := findClass_of_methodNamed B.named
    have hb0 : E.2.2.2 ≤ s.heap.size := by obtain ⟨_, _, _, _, _, _, h⟩ := hH; exact h
    have k := h ((p, e, s, m, (av.map (tr E)).toArray, below, meth, c), rmD d mc ms, nL, MQ below (QcE E S' σ' rv) (av.map (tr E)).toArray s mc ms (AE E)) ⟨B.exec, B.bytes, B.returns, B.notSynchronized, hml, rfl, rfl, hown, fun w hw => hts w (List.mem_cons_of_mem _ hw), hO, hb0⟩ (vx_table (x := y) B (hts _ List.mem_cons_self)) rfl
    refine vx_ret ?_
    rw [lg_entry_eq]
    refine k s.heap [] _ hH va_S.rf ?_
    rw [← lv_args_tr]
    exact lv_entry (av.map (tr E)) (by rw [lg_sl_tr]; exact hn)
  intro p e ha hc hk s m args below hf h1 h2 h3
  obtain ⟨k, o, a1, a2, a3, a4⟩ := key p e ha hc hk s m args below hf h1 h2 h3
  refine ⟨k, o, a1, a2, a3, ?_⟩
  rcases a4 with a4 | ⟨q, -, X, ce, L, hx, -⟩
  · exact a4
  · exact hx.elim
/-- what a callee with a table says -/
def CeW (y : MethodName) (bytes : ByteArray) (maxL : Nat) (ret : Option FieldType) (hh : List (Nat × Nat × Nat × Nat)) (n : Nat) : Prop := Cond.initialized y.cls ∈ lw_good ∧ Cond.codeWith y bytes maxL ret hh ∈ lw_good ∧ (y.cls ≠ "java/lang/invoke/MethodHandle" ∧ y.cls ≠ "java/lang/invoke/VarHandle" ∧ (parseMethodDescriptor y.desc).map (fun d => d.parameters.length) = some n) ∧ maxL ≤ 40
section Help
variable {E : Ev} {Z : Zx} {own : String} {cc : ByteArray} {ret : Option FieldType} {nL d mc ms cells slots : Nat} {S S' : List Sh} {σ σ' : Sg} {pc : Nat} {lv : List (Nat × Value)} {st stk : List Value}
variable {idx d' n maxL mc' ms' : Nat} {y : MethodName} {bytes : ByteArray} {ret' : Option FieldType} {b ci : Nat} {As : List Value} {rv : Option Value} {q : vw_C} {fks : List FK}
theorem r_callW {hh : List (Nat × Nat × Nat × Nat)} (C : Ctx E Z own cc ret nL d mc ms) (hM : Cw E d' y bytes maxL ret' hh As S S' σ σ' rv mc' ms') (hl : Cond.methodLink own idx y ∈ lw_good) (hc : CeW y bytes maxL ret' hh n) (hv : CeS y) (hn : As.length = n) (hdd : d' + 1 ≤ d) (hst : stk = As.reverse ++ st) (hW : (st.map fun v => v.category).sum ≤ 8) (hf : cells + mc' ≤ mc ∧ slots + ms' ≤ ms) (hd : decode cc pc = .ok (.invokestatic idx, 3)) {pc' : Nat} (hp : pc + 3 = pc')
    (kk : Wm E Z (cells + mc') (slots + ms') S' σ' pc' lv (rv.toList ++ st)) : Wm E Z cells slots S σ pc lv stk := by
  subst hp
  obtain ⟨⟨p, e, s, m, args, below, meth, c⟩, R, nL', Q⟩ := Z
  obtain ⟨hx, hb, hr, hlocks, hml, rfl, rfl, hown, hts, hO, hbase⟩ := C
  obtain ⟨c1, c2, c3, c4⟩ := hc
  intro H locs ls h1 h2 h3
  refine c_back (H := H) (locs := locs) (a := (As.map (tr E)).toArray) rfl (vx_runSW (As := As.map (tr E)) ⟨hx, hb, hml, hown, hts⟩ hM (vx_cwSW n hts ?_ rfl rfl rfl c3 (c_room hdd c4)) ⟨?_, ?_⟩ rfl (by rw [List.length_map]; exact hn) h3.1 ?_ ?_ hd hf) hbase h2 h3 kk
  · intro w hw
    rcases List.mem_append.mp hw with hw | hw
    · simp only [List.mem_cons, List.not_mem_nil, or_false] at hw
      rcases hw with rfl | rfl | rfl
      · exact good_all _ hl
      · exact good_all _ hv
      · exact good_all _ c1
    · rcases List.mem_cons.mp hw with rfl | hw
      · exact good_all _ c2
      · exact good_all _ hw
  · intro a U g mk hq
    exact ⟨hq.1, hq.2.1.moved (u := U) (U := U.calling g mk a) (Vm.Alike.refl U.vm), hq.2.2.same (u := U) (U := U.calling g mk a) rfl⟩
  · intro U hU hW
    exact ⟨rfl, c_pre h1 h2 hO hU hW⟩
  · show stk.map (tr E) = _
    rw [hst]
    simp
  · show 2 * 0 + ((st.map (tr E)).map fun v => v.category).sum ≤ 8
    rw [c_cat]
    omega
/-- at a handler -/
def Wc (E : Ev) (Z : Zx) (cells slots : Nat) (S : List Sh) (σ : Sg) (pc : Nat) (lv : List (Nat × Value)) : Prop :=
  match Z with
  | ((p, e, s, m, args, below, meth, c), R, nL, Q) => ∀ (H : Heap) (locs : List Loc) (ls : Array Slot) (q : Nat), HR E S σ s H → va_S (AE E) s.heap H locs → lv_has ls nL (lv.map (fun q => (q.1, tr E q.2))) → W p E.1 e R s m args below meth c H locs cells slots Q (F0 m pc ls [.ref q])
theorem r_cat (C : Ctx E Z own cc ret nL d mc ms) {i : Nat} (hd : decode cc pc = .ok (.astore i, 2)) (hi : i < nL) (hlv : lv.filter (fun q => !(q.1 == i) && !(q.1 + 1 == i && q.2.category == 2)) = lv) {pc' : Nat} (hp : pc + 2 = pc') (kk : Wm E Z cells slots S σ pc' lv []) : Wc E Z cells slots S σ pc lv := by
  subst hp
  obtain ⟨⟨p, e, s, m, args, below, meth, c⟩, R, nL', Q⟩ := Z
  obtain ⟨hx, hb, hr, hlocks, hml, rfl, rfl, hown, hts, hO, hbase⟩ := C
  intro H locs ls q h1 h2 h3
  refine lv_astore hx hb hd h3 hi rfl (fun ls' h' => kk H locs ls' h1 h2 ⟨h'.1, h'.2.1, fun z hz => h'.2.2 z (List.mem_cons_of_mem _ ?_)⟩)
  obtain ⟨z0, hz0, rfl⟩ := List.mem_map.mp hz
  rw [← hlv] at hz0
  have h9 := (List.mem_filter.mp hz0).2
  refine List.mem_filter.mpr ⟨List.mem_map.mpr ⟨z0, (List.mem_filter.mp hz0).1, rfl⟩, ?_⟩
  simpa [tr_cat] using h9
theorem r_catn (C : Ctx E Z own cc ret nL d mc ms) {k : Fin 4} {i : Nat} (hd : decode cc pc = .ok (.astore_n k, 1)) (hk : (k : Nat) = i) (hi : i < nL) (hlv : lv.filter (fun q => !(q.1 == i) && !(q.1 + 1 == i && q.2.category == 2)) = lv) {pc' : Nat} (hp : pc + 1 = pc') (kk : Wm E Z cells slots S σ pc' lv []) : Wc E Z cells slots S σ pc lv := by
  subst hp
  obtain ⟨⟨p, e, s, m, args, below, meth, c⟩, R, nL', Q⟩ := Z
  obtain ⟨hx, hb, hr, hlocks, hml, rfl, rfl, hown, hts, hO, hbase⟩ := C
  intro H locs ls q h1 h2 h3
  refine lv_astore_n hx hb hd hk h3 hi rfl (fun ls' h' => kk H locs ls' h1 h2 ⟨h'.1, h'.2.1, fun z hz => h'.2.2 z (List.mem_cons_of_mem _ ?_)⟩)
  obtain ⟨z0, hz0, rfl⟩ := List.mem_map.mp hz
  rw [← hlv] at hz0
  have h9 := (List.mem_filter.mp hz0).2
  refine List.mem_filter.mpr ⟨List.mem_map.mpr ⟨z0, (List.mem_filter.mp hz0).1, rfl⟩, ?_⟩
  simpa [tr_cat] using h9
theorem ns_law : Cond.classLink RL 13 nse ∈ lw_tbl := by decide +kernel
theorem ns_cast : Cond.castable nse nse ∈ lw_tbl := by decide +kernel
theorem r_callX {x : Nat × Nat × Nat × Nat} (C : Ctx E Z RL cc ret nL d mc ms) (hT : TabZ Z [x]) (hM : Xm E d' y bytes maxL ret' (.ref b :: As) S σ) (hl : Cond.methodLink RL idx y ∈ lw_good) (hc : Ce y bytes maxL ret' n) (hv : CeV y) (hS : S[b]? = some (.inl (ci, fks))) (hq : vwCl[ci]? = some q) (hqc : q.1 = y.cls) (hn : As.length = n) (hdd : d' + 1 ≤ d) (hst : stk = As.reverse ++ .ref b :: st) (hW : (st.map fun v => v.category).sum ≤ 8) (hf : cells + 1 ≤ mc ∧ slots + 6 ≤ ms) (hd : decode cc pc = .ok (.invokevirtual idx, 3))
    (hcov : covers ⟨x.1, x.2.1, x.2.2.1, x.2.2.2⟩ pc = true) (hx13 : x.2.2.2 = 13) (kk : Wc E Z (cells + 1) (slots + 6) S σ x.2.2.1 lv) : Wm E Z cells slots S σ pc lv stk := by
  obtain ⟨⟨p, e, s, m, args, below, meth, c⟩, R, nL', Q⟩ := Z
  obtain ⟨hx, hb, hr, hlocks, hml, rfl, rfl, hown, hts, hO, hbase⟩ := C
  obtain ⟨c1, c2, c3, c4⟩ := hc
  intro H locs ls h1 h2 h3
  have h1' := h1
  obtain ⟨cA, tys, hK, hP, hTT, hlen, hbs⟩ := h1
  have hrec := va_recv hK hP hq (ws_at hS)
  rw [hqc] at hrec
  have hr : vx_Run p E.1 e (rmD d mc ms) s m args below meth c H locs cells slots 1 6 (F0 m pc ls (stk.map (tr E))) (st.map (tr E)) (QcF (Value.ref (ad E b) :: As.map (tr E)).toArray) (XcT E S σ) (AE E) := by
    refine vx_runV (As := As.map (tr E)) (C := y.cls) (b := ad E b) ⟨hx, hb, hml, hown, hts⟩ hM (cwV n hts ?_ rfl rfl rfl ⟨rfl, c3⟩ (c_room hdd c4)) ⟨?_, hrec, ?_⟩ rfl (by rw [List.length_map]; exact hn) h3.1 ?_ ?_ hd hf
    · intro w hw
      rcases List.mem_append.mp hw with hw | hw
      · simp only [List.mem_cons, List.not_mem_nil, or_false] at hw
        rcases hw with rfl | rfl | rfl | rfl
        · exact good_all _ hl
        · exact good_all _ hv.1
        · exact good_all _ hv.2
        · exact good_all _ c1
      · exact cw_good c2 w hw
    · intro a U g mk hq
      exact ⟨hq.1, hq.2.1.moved (u := U) (U := U.calling g mk a) (Vm.Alike.refl U.vm), hq.2.2.same (u := U) (U := U.calling g mk a) rfl⟩
    · intro U hU hW
      exact ⟨rfl, c_pre h1' h2 hO hU hW⟩
    · show stk.map (tr E) = _
      rw [hst]
      simp [tr]
    · show 2 * 0 + ((st.map (tr E)).map fun v => v.category).sum ≤ 8
      rw [c_cat]
      omega
  intro T hT0 X
  rcases hr T hT0 X with ⟨v, st₀, t, T', L, h0, X', hL, e1, e2, hbad, stp⟩ | ⟨q9, st₀, t, T', L, X9, ce, h0, X', hL, e1, e2, ⟨rfl, hH, hz, hk⟩, hce, hcv, hcl, stp⟩
  · exact hbad.elim
  · rw [h0] at hz hk
    have hH' : HR E S σ s T'.heap := by
      rw [e1]
      exact hH.moved (by rw [← e2]; exact X'.warmed.alike.symm)
    have hS' : va_S (AE E) s.heap T'.heap (locs ++ L) := ⟨Nat.le_trans h2.1 (by rw [e1]; exact hz), fun q g1 g2 => by rw [e1, hk q (Nat.lt_of_lt_of_le g1 h2.1) g2]; exact h2.2.1 q g1 g2, fun q hq => (List.mem_append.mp hq).elim (fun h => h2.2.2 q h) (fun h => hL q h)⟩
    have hcast : (Cond.castable nse nse).before args s = true := va_Nw.use (nw_tab rfl) (hO.2.2.2.2 _ (List.mem_filter.mpr ⟨ns_cast, rfl⟩))
    have hlk : (Cond.classLink RL x.2.2.2 nse).before args s = true := by rw [hx13]; exact hts _ (List.mem_filter.mpr ⟨ns_law, rfl⟩)
    have kc := kk T'.heap (locs ++ L) ls q9 hH' hS' h3
    obtain ⟨t2, a1, b1⟩ := vx_catch (rest := st.map (tr E)) (pc := pc) hown [] ⟨x.1, x.2.1, x.2.2.1, x.2.2.2⟩ [] hT (fun z hz => nomatch hz) hcov (by show x.2.2.2 ≠ 0; omega) hlk hcast (by rw [e1]; exact hce) hcv hcl kc T' rfl X'
    exact ⟨t2, stp.trans a1, b1⟩
end Help
theorem ceL_thing : CeW yL_thing cL_thing 5 (some .int) [(0, 10, 13, 13)] 4 := ⟨List.mem_filter.mpr ⟨by decide +kernel, rfl⟩, List.mem_filter.mpr ⟨by decide +kernel, rfl⟩, by decide +kernel, by decide⟩
theorem ceL_row : CeW yL_row cL_row 4 (some .int) [(0, 8, 11, 13)] 3 := ⟨List.mem_filter.mpr ⟨by decide +kernel, rfl⟩, List.mem_filter.mpr ⟨by decide +kernel, rfl⟩, by decide +kernel, by decide⟩
theorem csL_thing : CeS yL_thing := List.mem_filter.mpr ⟨by decide +kernel, rfl⟩
theorem csL_row : CeS yL_row := List.mem_filter.mpr ⟨by decide +kernel, rfl⟩
theorem L_thing_y {E : Ev} {N : Nat} {a w : Int32} {σ : Sg} {r : Int32 × Sg} (h : X8_thing N a w σ = some r) : Cw E 8 yL_thing cL_thing 5 (some .int) [(0, 10, 13, 13)] [.ref 0, .int a, .int w, .ref 180] SH0 SH0 σ (wl r.2 180 0 r.1.toInt64) (some (.int 0)) 0 0 := by
  refine Cw.intro (by decide +kernel) (Nat.le_of_ble_eq_true rfl) (fun Z C hT hE => ?_)
  show Wm E Z 0 0 SH0 σ 0 [(0, .ref 0), (1, .int a), (2, .int w), (3, .ref 180)] []
  refine r_aload_n (pc' := 1) C dL_thing_0 rfl 3 rfl ?_
  refine r_iconst (pc' := 2) (v := 0) C dL_thing_1 rfl rfl ?_
  refine r_aload_n (pc' := 3) C dL_thing_2 rfl 0 rfl ?_
  refine r_iload_n (pc' := 4) C dL_thing_3 rfl 1 rfl ?_
  refine r_iload_n (pc' := 5) C dL_thing_4 rfl 2 rfl ?_
  refine r_cV1 (pc' := 8) (As := [.int a, .int w]) (st := [.int 0, .ref 180]) C (X8_thing_ok h) mlL_7 ceX8_thing cvX8_thing sh_0 rfl rfl rfl (Nat.le_of_ble_eq_true rfl) rfl (Nat.le_of_ble_eq_true rfl) dL_thing_5 rfl (kk := ?_)
  refine r_i2l (pc' := 9) C dL_thing_8 rfl rfl ?_
  refine r_last (pc' := 10) (σ1 := wl r.2 180 0 r.1.toInt64) C sh_180 (vin (show inb 0 1 = true by decide)) dL_thing_9 rfl rfl ?_
  refine r_goto (tgt := 17) C dL_thing_10 rfl ?_
  refine r_iconst (pc' := 18) (v := 0) C dL_thing_17 rfl rfl ?_
  exact r_ret C rfl dL_thing_18 hE
theorem L_thing_n {E : Ev} {a w : Int32} {σ : Sg} (h : Xm E 7 yX8_thing cX8_thing 3 (some .int) [.ref 0, .int a, .int w] SH0 σ) : Cw E 8 yL_thing cL_thing 5 (some .int) [(0, 10, 13, 13)] [.ref 0, .int a, .int w, .ref 180] SH0 SH0 σ σ (some (.int 1)) 1 6 := by
  refine Cw.intro (by decide +kernel) (Nat.le_of_ble_eq_true rfl) (fun Z C hT hE => ?_)
  show Wm E Z 0 0 SH0 σ 0 [(0, .ref 0), (1, .int a), (2, .int w), (3, .ref 180)] []
  refine r_aload_n (pc' := 1) C dL_thing_0 rfl 3 rfl ?_
  refine r_iconst (pc' := 2) (v := 0) C dL_thing_1 rfl rfl ?_
  refine r_aload_n (pc' := 3) C dL_thing_2 rfl 0 rfl ?_
  refine r_iload_n (pc' := 4) C dL_thing_3 rfl 1 rfl ?_
  refine r_iload_n (pc' := 5) C dL_thing_4 rfl 2 rfl ?_
  refine r_callX (As := [.int a, .int w]) (st := [.int 0, .ref 180]) C hT h mlL_7 ceX8_thing cvX8_thing sh_0 rfl rfl rfl (Nat.le_of_ble_eq_true rfl) rfl (Nat.le_of_ble_eq_true rfl) ⟨Nat.le_refl _, Nat.le_refl _⟩ dL_thing_5 rfl rfl ?_
  refine r_cat (pc' := 15) C dL_thing_13 (by decide) rfl rfl ?_
  refine r_iconst (pc' := 16) (v := 1) C dL_thing_15 rfl rfl ?_
  exact r_ret C rfl dL_thing_16 hE
theorem L_row_y {E : Ev} {N : Nat} {v : Int32} {σ : Sg} {r : Int64 × Sg} (h : X8_row N v σ = some r) : Cw E 8 yL_row cL_row 4 (some .int) [(0, 8, 11, 13)] [.ref 0, .int v, .ref 180] SH0 SH0 σ (wl r.2 180 0 r.1) (some (.int 0)) 0 0 := by
  refine Cw.intro (by decide +kernel) (Nat.le_of_ble_eq_true rfl) (fun Z C hT hE => ?_)
  show Wm E Z 0 0 SH0 σ 0 [(0, .ref 0), (1, .int v), (2, .ref 180)] []
  refine r_aload_n (pc' := 1) C dL_row_0 rfl 2 rfl ?_
  refine r_iconst (pc' := 2) (v := 0) C dL_row_1 rfl rfl ?_
  refine r_aload_n (pc' := 3) C dL_row_2 rfl 0 rfl ?_
  refine r_iload_n (pc' := 4) C dL_row_3 rfl 1 rfl ?_
  refine r_cV1 (pc' := 7) (As := [.int v]) (st := [.int 0, .ref 180]) C (X8_row_ok h) mlL_15 ceX8_row cvX8_row sh_0 rfl rfl rfl (Nat.le_of_ble_eq_true rfl) rfl (Nat.le_of_ble_eq_true rfl) dL_row_4 rfl (kk := ?_)
  refine r_last (pc' := 8) (σ1 := wl r.2 180 0 r.1) C sh_180 (vin (show inb 0 1 = true by decide)) dL_row_7 rfl rfl ?_
  refine r_goto (tgt := 14) C dL_row_8 rfl ?_
  refine r_iconst (pc' := 15) (v := 0) C dL_row_14 rfl rfl ?_
  exact r_ret C rfl dL_row_15 hE
theorem L_row_n {E : Ev} {v : Int32} {σ : Sg} (h : Xm E 7 yX8_row cX8_row 2 (some .long) [.ref 0, .int v] SH0 σ) : Cw E 8 yL_row cL_row 4 (some .int) [(0, 8, 11, 13)] [.ref 0, .int v, .ref 180] SH0 SH0 σ σ (some (.int 1)) 1 6 := by
  refine Cw.intro (by decide +kernel) (Nat.le_of_ble_eq_true rfl) (fun Z C hT hE => ?_)
  show Wm E Z 0 0 SH0 σ 0 [(0, .ref 0), (1, .int v), (2, .ref 180)] []
  refine r_aload_n (pc' := 1) C dL_row_0 rfl 2 rfl ?_
  refine r_iconst (pc' := 2) (v := 0) C dL_row_1 rfl rfl ?_
  refine r_aload_n (pc' := 3) C dL_row_2 rfl 0 rfl ?_
  refine r_iload_n (pc' := 4) C dL_row_3 rfl 1 rfl ?_
  refine r_callX (As := [.int v]) (st := [.int 0, .ref 180]) C hT h mlL_15 ceX8_row cvX8_row sh_0 rfl rfl rfl (Nat.le_of_ble_eq_true rfl) rfl (Nat.le_of_ble_eq_true rfl) ⟨Nat.le_refl _, Nat.le_refl _⟩ dL_row_4 rfl rfl ?_
  refine r_catn (pc' := 12) (i := 3) C dL_row_11 rfl (by decide) rfl rfl ?_
  refine r_iconst (pc' := 13) (v := 1) C dL_row_12 rfl rfl ?_
  exact r_ret C rfl dL_row_13 hE
