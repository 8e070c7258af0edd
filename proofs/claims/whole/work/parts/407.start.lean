/-! ===== the law from its entry ===== -/
def K193 : List Sh := K192 ++ ([.inr (.inr (.inl 1))] : List Sh)
theorem cK192' : Cl K192 := Cl_of (by decide +kernel)
theorem zi_H0 : zi H0 0 = H0 := by
  unfold zi H0
  congr 1
  · funext k
    split <;> rfl
  · funext k
    split <;> rfl
theorem K193_5 : K193[5]? = some (.inl (0, [some (some (some 6)), none, some (some (some 7)), some (some (some 11)), some (some (some 15)), some (some (some 16)), none, some (some (some 17)), none, some (some (some 18))])) := gk (by decide +kernel)
set_option maxRecDepth 100000 in
theorem SH0_K : SH0 = K193.set 5 (.inl (0, [some (some (some 6)), none, some (some none), some (some none), some (some (some 15)), some (some (some 16)), none, some (some (some 17)), none, some (some (some 18))])) := by rfl
/-- the two rules: named by their places -/
theorem r_dyn {E : Ev} {Z : Zx} {cells slots : Nat} {σ : Sg} {pc : Nat} {lv : List (Nat × Value)} {st : List Value} (kk : Wm E Z cells slots SH0 (wi (wi σ 5 2 7) 5 3 11) pc lv st) : Wm E Z cells slots K193 σ pc lv st := by
  obtain ⟨⟨p, e, s, m, args, below, meth, c⟩, R, nL', Q⟩ := Z
  intro H locs ls h1 h2 h3
  refine kk H locs ls ?_ h2 h3
  obtain ⟨cA, tys, hK, hP, hT, hlen, hbs⟩ := h1
  refine HR_put (σ := σ) (e := ent E cA σ 5 _) hK hT hlen hbs K193_5 SH0_K rfl ?_ (fun j hj => ⟨by rw [gi_wi_ne hj, gi_wi_ne hj], rfl⟩) (by rw [set_self (ws_at K193_5)]; exact hP)
  have e1 : ∀ j, j ≠ 2 → j ≠ 3 → gi (wi (wi σ 5 2 7) 5 3 11) 5 j = gi σ 5 j := fun j h2 h3 => by rw [giw, if_neg (fun q => h3 q.2), giw, if_neg (fun q => h2 q.2)]
  have e2 : gi (wi (wi σ 5 2 7) 5 3 11) 5 2 = 7 := by rw [giw, if_neg (by decide), giw, if_pos ⟨rfl, rfl⟩]
  have e3 : gi (wi (wi σ 5 2 7) 5 3 11) 5 3 = 11 := by rw [giw, if_pos ⟨rfl, rfl⟩]
  show (Sum.inr (0, [tr E (.ref 6), .int (gi (wi (wi σ 5 2 7) 5 3 11) 5 1), tr E (.ref (gi (wi (wi σ 5 2 7) 5 3 11) 5 2).toNatClampNeg), tr E (.ref (gi (wi (wi σ 5 2 7) 5 3 11) 5 3).toNatClampNeg), tr E (.ref 15), tr E (.ref 16), .int (gi (wi (wi σ 5 2 7) 5 3 11) 5 6), tr E (.ref 17), .int (gi (wi (wi σ 5 2 7) 5 3 11) 5 8), tr E (.ref 18)]) : va_E) = Sum.inr (0, [tr E (.ref 6), .int (gi σ 5 1), tr E (.ref 7), tr E (.ref 11), tr E (.ref 15), tr E (.ref 16), .int (gi σ 5 6), tr E (.ref 17), .int (gi σ 5 8), tr E (.ref 18)])
  rw [e1 1 (by decide) (by decide), e1 6 (by decide) (by decide), e1 8 (by decide) (by decide), e2, e3]
  rfl
theorem wcL_8 : Cond.classLink RL 8 RX8 ∈ lw_good := List.mem_filter.mpr ⟨by decide +kernel, rfl⟩
theorem wcL_20 : Cond.classLink RL 20 RX9 ∈ lw_good := List.mem_filter.mpr ⟨by decide +kernel, rfl⟩
theorem wnL_8 : Cond.instantiable RX8 15 ∈ lw_good := List.mem_filter.mpr ⟨by decide +kernel, rfl⟩
theorem wnL_9 : Cond.instantiable RX9 48 ∈ lw_good := List.mem_filter.mpr ⟨by decide +kernel, rfl⟩
theorem wtL_8 : Cond.initialized RX8 ∈ lw_good := List.mem_filter.mpr ⟨by decide +kernel, rfl⟩
theorem wtL_9 : Cond.initialized RX9 ∈ lw_good := List.mem_filter.mpr ⟨by decide +kernel, rfl⟩
set_option maxRecDepth 100000 in
set_option maxHeartbeats 4000000 in
theorem law_begin {E : Ev} {Z : Zx} {L : Nat} {xs : Nat → Int32} (C : LwC E Z) (hAz : Az Z) (hX : SX E Z L xs) (hl : E.1.stackTraces = false) (hL : L ≤ 320) (hEnd : ∀ E' : Ev, Ext E E' 0 → LEnd E' Z) : Wm E Z 0 0 [] H0 0 [(0, .ref 1050)] [] := by
  refine r_new (pc' := 3) (ci := 8) (q := (RX8, TX8, 15)) (fks := [some none, some none, some none, some none, some none, some none, some none, some none, some none, some none, some none, some none, some none, some none, some none]) C tyX8 rfl ci_8 tyX8_ok wcL_8 wnL_8 wtL_8 (by decide +kernel) (by decide +kernel) (Cl_of (by decide +kernel)) (okV_of (by decide +kernel)) (by decide) (by decide) dL_law_0 rfl (fun E1 Y1 C => ?_)
  have X := Y1
  refine r_SG (S2 := K0) (σ2 := H0) rfl zi_H0 ?_
  show Wm _ _ _ _ _ _ _ [(0, .ref 1050)] [.ref 0]
  refine r_dup (pc' := 4) C dL_law_3 rfl rfl ?_
  refine r_callN (pc' := 7) (st := [.ref 0]) C X8_init_c0 (Or.inr mlL_19) ceX8_init ciX8_init rfl hAz (Cl_of (by decide +kernel)) (okV_of (by decide +kernel)) rfl (Nat.le_of_ble_eq_true rfl) rfl (Nat.le_of_ble_eq_true rfl) ⟨by decide, by decide⟩ dL_law_4 rfl (fun E2 Y2 C => ?_)
  have X := X.trans Y2 (by decide +kernel)
  refine r_astore_n (pc' := 8) (i := 1) (lv2 := [(1, .ref 0), (0, .ref 1050)]) C dL_law_7 rfl rfl (by decide) rfl ?_
  refine r_new (pc' := 11) (ci := 9) (q := (RX9, TX9, 48)) (fks := [none, none, some none, none, none, none, some none, some none, some none, some none, some none, none, none, none, none, some none, none, some none, some none, none, none, some none, some none, none, some none, none, none, some none, some none, some none, none, some none, some none, some none, some none, none, some none, some none, some none, some none, some none, some none, some none, some none, none, some none, some none, some none]) C tyX9 rfl ci_9 tyX9_ok wcL_20 wnL_9 wtL_9 (by decide +kernel) (by decide +kernel) (Cl_of (by decide +kernel)) (okV_of (by decide +kernel)) (by decide) (by decide) dL_law_8 rfl (fun E3 Y3 C => ?_)
  have X := X.trans Y3 (by decide +kernel)
  refine r_SG (S2 := K132) (σ2 := H80) rfl rfl ?_
  show Wm _ _ _ _ _ _ _ [(1, .ref 0), (0, .ref 1050)] [.ref 149]
  refine r_dup (pc' := 12) C dL_law_11 rfl rfl ?_
  refine r_callN (pc' := 15) (st := [.ref 149]) C X9_init_c149 (Or.inr mlL_22) ceX9_init ciX9_init rfl hAz (Cl_of (by decide +kernel)) (okV_of (by decide +kernel)) rfl (Nat.le_of_ble_eq_true rfl) rfl (Nat.le_of_ble_eq_true rfl) ⟨by decide, by decide⟩ dL_law_12 rfl (fun E4 Y4 C => ?_)
  have X := X.trans Y4 (by decide +kernel)
  refine r_astore_n (pc' := 16) (i := 2) (lv2 := [(2, .ref 149), (1, .ref 0), (0, .ref 1050)]) C dL_law_15 rfl rfl (by decide) rfl ?_
  refine r_iconst (pc' := 17) (v := 1) C dL_law_16 rfl rfl ?_
  refine r_newa (pc' := 19) (aty := .long) (N := 1) (x := .inr (.inr (.inl 1))) C aw_long (Or.inr ⟨rfl, rfl⟩) cK192' (okV_of (by decide +kernel)) (by decide) (by decide) (by decide) (by decide) (by decide) dL_law_17 rfl (fun E5 Y5 C => ?_)
  have X := X.trans Y5 (by decide +kernel)
  refine r_SG (S2 := K193) (σ2 := zi H112 180) rfl rfl ?_
  show Wm _ _ _ _ _ _ _ [(2, .ref 149), (1, .ref 0), (0, .ref 1050)] [.ref 180]
  refine r_astore_n (pc' := 20) (i := 3) (lv2 := [(3, .ref 180), (2, .ref 149), (1, .ref 0), (0, .ref 1050)]) C dL_law_19 rfl rfl (by decide) rfl ?_
  refine r_iconst (pc' := 21) (v := nI (5 * 0)) C dL_law_20 rfl (by decide) ?_
  refine r_istore (pc' := 23) (lv2 := lvK 0) C dL_law_21 rfl (by decide) rfl ?_
  refine r_dyn ?_
  refine law_loop C (SX.ext X hX) (by rw [X.1]; exact hl) hL (hEnd _ X) 65 0 (Nat.le_refl _) (Nat.zero_le _) _ A0 _ _ (by decide) (by decide) A0_c A0_r A0_ok
