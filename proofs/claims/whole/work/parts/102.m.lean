/-! BorrowedWeight.sheet(IIII)I -/
def X8_sheet (N : Nat)  (v1 : Int32) (v2 : Int32) (v3 : Int32) (v4 : Int32) (σ : Sg) : Option (Int32 × Sg) :=
  if v1 < 0 then (some ((-1), σ)) else (if 3 < v1 then (some ((-1), σ)) else (if v2 ≤ 8 then (if v1 = 3 then ((X0_setSizes N v1 0 v3 v4 σ).bind fun r8 => (some ((-3), r8.2))) else (if 0 ≤ v2 then ((X0_setSizes N v1 v2 v3 v4 σ).bind fun r6 => (some (r6.1, r6.2))) else (some ((-2), σ)))) else (some ((-1), σ))))
set_option maxRecDepth 100000 in
set_option maxHeartbeats 4000000 in
theorem X8_sheet_ok {E : Ev}  {N : Nat} {v1 : Int32} {v2 : Int32} {v3 : Int32} {v4 : Int32} {σ : Sg} {r : Int32 × Sg} (h : X8_sheet N  v1 v2 v3 v4 σ = some r) : Cm E (2) yX8_sheet cX8_sheet 5 (some .int) [.ref 0, .int v1, .int v2, .int v3, .int v4] SH0 SH0 σ r.2 (some (.int r.1)) 0 0 := by
  refine Cm.intro (by decide +kernel) (Nat.le_of_ble_eq_true rfl) (fun _ h => by obtain ⟨_, _, _, _, _, _, h⟩ := h; exact h) (fun Z C hE => ?_)
  show Wm E Z 0 0 SH0 σ 0 [(0, .ref 0), (1, .int v1), (2, .int v2), (3, .int v3), (4, .int v4)] []
  unfold X8_sheet at h
  refine r_iload_n (pc' := 1) C dX8_sheet_0 rfl 1 rfl ?_
  refine r_if_lt (tgt := 15) (pc' := 4) C dX8_sheet_1 rfl rfl (fun c1 => ?_) (fun c1 => ?_)
  · rw [if_pos c1] at h
    refine r_iconst (pc' := 16) C dX8_sheet_15 rfl kc_m1 ?_
    have h := Option.some.inj h
    subst h
    exact r_ret C rfl dX8_sheet_16 hE
  · rw [if_neg c1] at h
    refine r_iload_n (pc' := 5) C dX8_sheet_4 rfl 1 rfl ?_
    refine r_iconst (pc' := 6) C dX8_sheet_5 rfl kc_3 ?_
    refine r_icmp_gt (tgt := 15) (pc' := 9) C dX8_sheet_6 rfl rfl (fun c2 => ?_) (fun c2 => ?_)
    · rw [if_pos c2] at h
      refine r_iconst (pc' := 16) C dX8_sheet_15 rfl kc_m1 ?_
      have h := Option.some.inj h
      subst h
      exact r_ret C rfl dX8_sheet_16 hE
    · rw [if_neg c2] at h
      refine r_iload_n (pc' := 10) C dX8_sheet_9 rfl 2 rfl ?_
      refine r_bipush (pc' := 12) C dX8_sheet_10 rfl kb_8 ?_
      refine r_icmp_le (tgt := 17) (pc' := 15) C dX8_sheet_12 rfl rfl (fun c3 => ?_) (fun c3 => ?_)
      · rw [if_pos c3] at h
        refine r_iload_n (pc' := 18) C dX8_sheet_17 rfl 1 rfl ?_
        refine r_iconst (pc' := 19) C dX8_sheet_18 rfl kc_3 ?_
        refine r_icmp_ne (tgt := 38) (pc' := 22) C dX8_sheet_19 rfl rfl (fun c4 => ?_) (fun c4 => ?_)
        · rw [if_neg c4] at h
          refine r_iload_n (pc' := 39) C dX8_sheet_38 rfl 2 rfl ?_
          refine r_if_ge (tgt := 45) (pc' := 42) C dX8_sheet_39 rfl rfl (fun c5 => ?_) (fun c5 => ?_)
          · rw [if_pos c5] at h
            refine r_aload_n (pc' := 46) C dX8_sheet_45 rfl 0 rfl ?_
            refine r_getR (pc' := 49) C flX8_26 sh_0 rfl dX8_sheet_46 rfl ?_
            refine r_iload_n (pc' := 50) C dX8_sheet_49 rfl 1 rfl ?_
            refine r_iload_n (pc' := 51) C dX8_sheet_50 rfl 2 rfl ?_
            refine r_iload_n (pc' := 52) C dX8_sheet_51 rfl 3 rfl ?_
            refine r_iload (pc' := 54) C dX8_sheet_52 rfl 4 rfl ?_
            obtain ⟨r6, e7, h⟩ := bd h
            refine r_cV1 (pc' := 57) C (X0_setSizes_ok  e7) mlX8_182 ceX0_setSizes cvX0_setSizes sh_5 rfl rfl rfl (Nat.le_of_ble_eq_true rfl) rfl (Nat.le_of_ble_eq_true rfl) dX8_sheet_54 rfl (kk := ?_)
            have h := Option.some.inj h
            subst h
            exact r_ret C rfl dX8_sheet_57 hE
          · rw [if_neg c5] at h
            refine r_bipush (pc' := 44) C dX8_sheet_42 rfl kb_m2 ?_
            have h := Option.some.inj h
            subst h
            exact r_ret C rfl dX8_sheet_44 hE
        · rw [if_pos c4] at h
          refine r_aload_n (pc' := 23) C dX8_sheet_22 rfl 0 rfl ?_
          refine r_getR (pc' := 26) C flX8_26 sh_0 rfl dX8_sheet_23 rfl ?_
          refine r_iload_n (pc' := 27) C dX8_sheet_26 rfl 1 rfl ?_
          refine r_iconst (pc' := 28) C dX8_sheet_27 rfl kc_0 ?_
          refine r_iload_n (pc' := 29) C dX8_sheet_28 rfl 3 rfl ?_
          refine r_iload (pc' := 31) C dX8_sheet_29 rfl 4 rfl ?_
          obtain ⟨r8, e9, h⟩ := bd h
          refine r_cV1 (pc' := 34) C (X0_setSizes_ok  e9) mlX8_182 ceX0_setSizes cvX0_setSizes sh_5 rfl rfl rfl (Nat.le_of_ble_eq_true rfl) rfl (Nat.le_of_ble_eq_true rfl) dX8_sheet_31 rfl (kk := ?_)
          refine r_pop (pc' := 35) C dX8_sheet_34 rfl rfl ?_
          refine r_bipush (pc' := 37) C dX8_sheet_35 rfl kb_m3 ?_
          have h := Option.some.inj h
          subst h
          exact r_ret C rfl dX8_sheet_37 hE
      · rw [if_neg c3] at h
        refine r_iconst (pc' := 16) C dX8_sheet_15 rfl kc_m1 ?_
        have h := Option.some.inj h
        subst h
        exact r_ret C rfl dX8_sheet_16 hE

/-! java/lang/Integer.bitCount(I)I -/
def J6_bitCount_0f7a4 (N : Nat)  (v0 : Int32) (σ : Sg) : Option (Int32) :=
  some ((((((((v0 - ((ushr v0 1) &&& 1431655765)) &&& 858993459) + ((ushr (v0 - ((ushr v0 1) &&& 1431655765)) 2) &&& 858993459)) + (ushr (((v0 - ((ushr v0 1) &&& 1431655765)) &&& 858993459) + ((ushr (v0 - ((ushr v0 1) &&& 1431655765)) 2) &&& 858993459)) 4)) &&& 252645135) + (ushr (((((v0 - ((ushr v0 1) &&& 1431655765)) &&& 858993459) + ((ushr (v0 - ((ushr v0 1) &&& 1431655765)) 2) &&& 858993459)) + (ushr (((v0 - ((ushr v0 1) &&& 1431655765)) &&& 858993459) + ((ushr (v0 - ((ushr v0 1) &&& 1431655765)) 2) &&& 858993459)) 4)) &&& 252645135) 8)) + (ushr ((((((v0 - ((ushr v0 1) &&& 1431655765)) &&& 858993459) + ((ushr (v0 - ((ushr v0 1) &&& 1431655765)) 2) &&& 858993459)) + (ushr (((v0 - ((ushr v0 1) &&& 1431655765)) &&& 858993459) + ((ushr (v0 - ((ushr v0 1) &&& 1431655765)) 2) &&& 858993459)) 4)) &&& 252645135) + (ushr (((((v0 - ((ushr v0 1) &&& 1431655765)) &&& 858993459) + ((ushr (v0 - ((ushr v0 1) &&& 1431655765)) 2) &&& 858993459)) + (ushr (((v0 - ((ushr v0 1) &&& 1431655765)) &&& 858993459) + ((ushr (v0 - ((ushr v0 1) &&& 1431655765)) 2) &&& 858993459)) 4)) &&& 252645135) 8)) 16)) &&& 63)
set_option maxRecDepth 100000 in
set_option maxHeartbeats 4000000 in
theorem J6_bitCount_0f7a4_ok {E : Ev} {S : List Sh}  {N : Nat} {v0 : Int32} {σ : Sg} {r : Int32} (h : J6_bitCount_0f7a4 N  v0 σ = some r) : Cm E (0) yJ6_bitCount_0f7a4 cJ6_bitCount_0f7a4 1 (some .int) [.int v0] S S σ σ (some (.int r)) 0 0 := by
  refine Cm.intro (by decide +kernel) (Nat.le_of_ble_eq_true rfl) (fun _ h => by obtain ⟨_, _, _, _, _, _, h⟩ := h; exact h) (fun Z C hE => ?_)
  show Wm E Z 0 0 S σ 0 [(0, .int v0)] []
  unfold J6_bitCount_0f7a4 at h
  refine r_iload_n (pc' := 1) C dJ6_bitCount_0f7a4_0 rfl 0 rfl ?_
  refine r_iload_n (pc' := 2) C dJ6_bitCount_0f7a4_1 rfl 0 rfl ?_
  refine r_iconst (pc' := 3) C dJ6_bitCount_0f7a4_2 rfl kc_1 ?_
  refine r_iushr (pc' := 4) (v := ushr v0 1) C dJ6_bitCount_0f7a4_3 rfl rfl ?_
  refine r_ldcw (pc' := 7) C cnJ6_265 dJ6_bitCount_0f7a4_4 rfl ?_
  refine r_iand (pc' := 8) C dJ6_bitCount_0f7a4_7 rfl ?_
  refine r_isub (pc' := 9) C dJ6_bitCount_0f7a4_8 rfl ?_
  refine r_istore_n (pc' := 10) (lv2 := [(0, .int (v0 - ((ushr v0 1) &&& 1431655765)))]) C dJ6_bitCount_0f7a4_9 rfl rfl (Nat.le_of_ble_eq_true rfl) rfl ?_
  refine r_iload_n (pc' := 11) C dJ6_bitCount_0f7a4_10 rfl 0 rfl ?_
  refine r_ldcw (pc' := 14) C cnJ6_266 dJ6_bitCount_0f7a4_11 rfl ?_
  refine r_iand (pc' := 15) C dJ6_bitCount_0f7a4_14 rfl ?_
  refine r_iload_n (pc' := 16) C dJ6_bitCount_0f7a4_15 rfl 0 rfl ?_
  refine r_iconst (pc' := 17) C dJ6_bitCount_0f7a4_16 rfl kc_2 ?_
  refine r_iushr (pc' := 18) (v := ushr (v0 - ((ushr v0 1) &&& 1431655765)) 2) C dJ6_bitCount_0f7a4_17 rfl rfl ?_
  refine r_ldcw (pc' := 21) C cnJ6_266 dJ6_bitCount_0f7a4_18 rfl ?_
  refine r_iand (pc' := 22) C dJ6_bitCount_0f7a4_21 rfl ?_
  refine r_iadd (pc' := 23) C dJ6_bitCount_0f7a4_22 rfl ?_
  refine r_istore_n (pc' := 24) (lv2 := [(0, .int (((v0 - ((ushr v0 1) &&& 1431655765)) &&& 858993459) + ((ushr (v0 - ((ushr v0 1) &&& 1431655765)) 2) &&& 858993459)))]) C dJ6_bitCount_0f7a4_23 rfl rfl (Nat.le_of_ble_eq_true rfl) rfl ?_
  refine r_iload_n (pc' := 25) C dJ6_bitCount_0f7a4_24 rfl 0 rfl ?_
  refine r_iload_n (pc' := 26) C dJ6_bitCount_0f7a4_25 rfl 0 rfl ?_
  refine r_iconst (pc' := 27) C dJ6_bitCount_0f7a4_26 rfl kc_4 ?_
  refine r_iushr (pc' := 28) (v := ushr (((v0 - ((ushr v0 1) &&& 1431655765)) &&& 858993459) + ((ushr (v0 - ((ushr v0 1) &&& 1431655765)) 2) &&& 858993459)) 4) C dJ6_bitCount_0f7a4_27 rfl rfl ?_
  refine r_iadd (pc' := 29) C dJ6_bitCount_0f7a4_28 rfl ?_
  refine r_ldcw (pc' := 32) C cnJ6_267 dJ6_bitCount_0f7a4_29 rfl ?_
  refine r_iand (pc' := 33) C dJ6_bitCount_0f7a4_32 rfl ?_
  refine r_istore_n (pc' := 34) (lv2 := [(0, .int (((((v0 - ((ushr v0 1) &&& 1431655765)) &&& 858993459) + ((ushr (v0 - ((ushr v0 1) &&& 1431655765)) 2) &&& 858993459)) + (ushr (((v0 - ((ushr v0 1) &&& 1431655765)) &&& 858993459) + ((ushr (v0 - ((ushr v0 1) &&& 1431655765)) 2) &&& 858993459)) 4)) &&& 252645135))]) C dJ6_bitCount_0f7a4_33 rfl rfl (Nat.le_of_ble_eq_true rfl) rfl ?_
  refine r_iload_n (pc' := 35) C dJ6_bitCount_0f7a4_34 rfl 0 rfl ?_
  refine r_iload_n (pc' := 36) C dJ6_bitCount_0f7a4_35 rfl 0 rfl ?_
  refine r_bipush (pc' := 38) C dJ6_bitCount_0f7a4_36 rfl kb_8 ?_
  refine r_iushr (pc' := 39) (v := ushr (((((v0 - ((ushr v0 1) &&& 1431655765)) &&& 858993459) + ((ushr (v0 - ((ushr v0 1) &&& 1431655765)) 2) &&& 858993459)) + (ushr (((v0 - ((ushr v0 1) &&& 1431655765)) &&& 858993459) + ((ushr (v0 - ((ushr v0 1) &&& 1431655765)) 2) &&& 858993459)) 4)) &&& 252645135) 8) C dJ6_bitCount_0f7a4_38 rfl rfl ?_
  refine r_iadd (pc' := 40) C dJ6_bitCount_0f7a4_39 rfl ?_
  refine r_istore_n (pc' := 41) (lv2 := [(0, .int ((((((v0 - ((ushr v0 1) &&& 1431655765)) &&& 858993459) + ((ushr (v0 - ((ushr v0 1) &&& 1431655765)) 2) &&& 858993459)) + (ushr (((v0 - ((ushr v0 1) &&& 1431655765)) &&& 858993459) + ((ushr (v0 - ((ushr v0 1) &&& 1431655765)) 2) &&& 858993459)) 4)) &&& 252645135) + (ushr (((((v0 - ((ushr v0 1) &&& 1431655765)) &&& 858993459) + ((ushr (v0 - ((ushr v0 1) &&& 1431655765)) 2) &&& 858993459)) + (ushr (((v0 - ((ushr v0 1) &&& 1431655765)) &&& 858993459) + ((ushr (v0 - ((ushr v0 1) &&& 1431655765)) 2) &&& 858993459)) 4)) &&& 252645135) 8)))]) C dJ6_bitCount_0f7a4_40 rfl rfl (Nat.le_of_ble_eq_true rfl) rfl ?_
  refine r_iload_n (pc' := 42) C dJ6_bitCount_0f7a4_41 rfl 0 rfl ?_
  refine r_iload_n (pc' := 43) C dJ6_bitCount_0f7a4_42 rfl 0 rfl ?_
  refine r_bipush (pc' := 45) C dJ6_bitCount_0f7a4_43 rfl kb_16 ?_
  refine r_iushr (pc' := 46) (v := ushr ((((((v0 - ((ushr v0 1) &&& 1431655765)) &&& 858993459) + ((ushr (v0 - ((ushr v0 1) &&& 1431655765)) 2) &&& 858993459)) + (ushr (((v0 - ((ushr v0 1) &&& 1431655765)) &&& 858993459) + ((ushr (v0 - ((ushr v0 1) &&& 1431655765)) 2) &&& 858993459)) 4)) &&& 252645135) + (ushr (((((v0 - ((ushr v0 1) &&& 1431655765)) &&& 858993459) + ((ushr (v0 - ((ushr v0 1) &&& 1431655765)) 2) &&& 858993459)) + (ushr (((v0 - ((ushr v0 1) &&& 1431655765)) &&& 858993459) + ((ushr (v0 - ((ushr v0 1) &&& 1431655765)) 2) &&& 858993459)) 4)) &&& 252645135) 8)) 16) C dJ6_bitCount_0f7a4_45 rfl rfl ?_
  refine r_iadd (pc' := 47) C dJ6_bitCount_0f7a4_46 rfl ?_
  refine r_istore_n (pc' := 48) (lv2 := [(0, .int (((((((v0 - ((ushr v0 1) &&& 1431655765)) &&& 858993459) + ((ushr (v0 - ((ushr v0 1) &&& 1431655765)) 2) &&& 858993459)) + (ushr (((v0 - ((ushr v0 1) &&& 1431655765)) &&& 858993459) + ((ushr (v0 - ((ushr v0 1) &&& 1431655765)) 2) &&& 858993459)) 4)) &&& 252645135) + (ushr (((((v0 - ((ushr v0 1) &&& 1431655765)) &&& 858993459) + ((ushr (v0 - ((ushr v0 1) &&& 1431655765)) 2) &&& 858993459)) + (ushr (((v0 - ((ushr v0 1) &&& 1431655765)) &&& 858993459) + ((ushr (v0 - ((ushr v0 1) &&& 1431655765)) 2) &&& 858993459)) 4)) &&& 252645135) 8)) + (ushr ((((((v0 - ((ushr v0 1) &&& 1431655765)) &&& 858993459) + ((ushr (v0 - ((ushr v0 1) &&& 1431655765)) 2) &&& 858993459)) + (ushr (((v0 - ((ushr v0 1) &&& 1431655765)) &&& 858993459) + ((ushr (v0 - ((ushr v0 1) &&& 1431655765)) 2) &&& 858993459)) 4)) &&& 252645135) + (ushr (((((v0 - ((ushr v0 1) &&& 1431655765)) &&& 858993459) + ((ushr (v0 - ((ushr v0 1) &&& 1431655765)) 2) &&& 858993459)) + (ushr (((v0 - ((ushr v0 1) &&& 1431655765)) &&& 858993459) + ((ushr (v0 - ((ushr v0 1) &&& 1431655765)) 2) &&& 858993459)) 4)) &&& 252645135) 8)) 16)))]) C dJ6_bitCount_0f7a4_47 rfl rfl (Nat.le_of_ble_eq_true rfl) rfl ?_
  refine r_iload_n (pc' := 49) C dJ6_bitCount_0f7a4_48 rfl 0 rfl ?_
  refine r_bipush (pc' := 51) C dJ6_bitCount_0f7a4_49 rfl kb_63 ?_
  refine r_iand (pc' := 52) C dJ6_bitCount_0f7a4_51 rfl ?_
  have h := Option.some.inj h
  subst h
  exact r_ret C rfl dJ6_bitCount_0f7a4_52 hE

/-! java/lang/Math.floorMod(II)I -/
def J9_floorMod_7cf53 (N : Nat)  (v0 : Int32) (v1 : Int32) (σ : Sg) : Option (Int32) :=
  if v1 = 0 then none else if 0 ≤ (v0 ^^^ v1) then (some (v0 - v0 / v1 * v1)) else (if (v0 - v0 / v1 * v1) = 0 then (some (v0 - v0 / v1 * v1)) else (some ((v0 - v0 / v1 * v1) + v1)))
set_option maxRecDepth 100000 in
set_option maxHeartbeats 4000000 in
theorem J9_floorMod_7cf53_ok {E : Ev} {S : List Sh}  {N : Nat} {v0 : Int32} {v1 : Int32} {σ : Sg} {r : Int32} (h : J9_floorMod_7cf53 N  v0 v1 σ = some r) : Cm E (0) yJ9_floorMod_7cf53 cJ9_floorMod_7cf53 3 (some .int) [.int v0, .int v1] S S σ σ (some (.int r)) 0 0 := by
  refine Cm.intro (by decide +kernel) (Nat.le_of_ble_eq_true rfl) (fun _ h => by obtain ⟨_, _, _, _, _, _, h⟩ := h; exact h) (fun Z C hE => ?_)
  show Wm E Z 0 0 S σ 0 [(0, .int v0), (1, .int v1)] []
  unfold J9_floorMod_7cf53 at h
  refine r_iload_n (pc' := 1) C dJ9_floorMod_7cf53_0 rfl 0 rfl ?_
  refine r_iload_n (pc' := 2) C dJ9_floorMod_7cf53_1 rfl 1 rfl ?_
  obtain ⟨q1, h⟩ := ck0 h
  refine r_irem (pc' := 3) C dJ9_floorMod_7cf53_2 rfl q1 ?_
  refine r_istore_n (pc' := 4) (lv2 := [(2, .int (v0 - v0 / v1 * v1)), (0, .int v0), (1, .int v1)]) C dJ9_floorMod_7cf53_3 rfl rfl (Nat.le_of_ble_eq_true rfl) rfl ?_
  refine r_iload_n (pc' := 5) C dJ9_floorMod_7cf53_4 rfl 1 rfl ?_
  refine r_iload_n (pc' := 6) C dJ9_floorMod_7cf53_5 rfl 2 rfl ?_
  refine r_ixor (pc' := 7) C dJ9_floorMod_7cf53_6 rfl ?_
  refine r_if_ge (tgt := 18) (pc' := 10) C dJ9_floorMod_7cf53_7 rfl rfl (fun c2 => ?_) (fun c2 => ?_)
  · rw [if_pos c2] at h
    refine r_iload_n (pc' := 19) C dJ9_floorMod_7cf53_18 rfl 0 rfl ?_
    have h := Option.some.inj h
    subst h
    exact r_ret C rfl dJ9_floorMod_7cf53_19 hE
  · rw [if_neg c2] at h
    refine r_iload_n (pc' := 11) C dJ9_floorMod_7cf53_10 rfl 0 rfl ?_
    refine r_if_eq (tgt := 18) (pc' := 14) C dJ9_floorMod_7cf53_11 rfl rfl (fun c3 => ?_) (fun c3 => ?_)
    · rw [if_pos c3] at h
      refine r_iload_n (pc' := 19) C dJ9_floorMod_7cf53_18 rfl 0 rfl ?_
      have h := Option.some.inj h
      subst h
      exact r_ret C rfl dJ9_floorMod_7cf53_19 hE
    · rw [if_neg c3] at h
      refine r_iload_n (pc' := 15) C dJ9_floorMod_7cf53_14 rfl 0 rfl ?_
      refine r_iload_n (pc' := 16) C dJ9_floorMod_7cf53_15 rfl 2 rfl ?_
      refine r_iadd (pc' := 17) C dJ9_floorMod_7cf53_16 rfl ?_
      have h := Option.some.inj h
      subst h
      exact r_ret C rfl dJ9_floorMod_7cf53_17 hE

/-! BorrowedWeight$Land.windAt(I)I -/
def X0_windAt (N : Nat)  (v1 : Int32) (σ : Sg) : Option (Int32) :=
  if (gi σ 5 8) < 1 then (some 0) else (if (gi σ 5 8) ≤ 20 then ((J9_floorMod_7cf53 N v1 (gi σ 5 8) σ).bind fun r3 => (if inb r3 20 = true then some (gi σ 17 r3.toNatClampNeg) else none)) else (some 0))
set_option maxRecDepth 100000 in
set_option maxHeartbeats 4000000 in
theorem X0_windAt_ok {E : Ev}  {N : Nat} {v1 : Int32} {σ : Sg} {r : Int32} (h : X0_windAt N  v1 σ = some r) : Cm E (1) yX0_windAt cX0_windAt 2 (some .int) [.ref 5, .int v1] SH0 SH0 σ σ (some (.int r)) 0 0 := by
  refine Cm.intro (by decide +kernel) (Nat.le_of_ble_eq_true rfl) (fun _ h => by obtain ⟨_, _, _, _, _, _, h⟩ := h; exact h) (fun Z C hE => ?_)
  show Wm E Z 0 0 SH0 σ 0 [(0, .ref 5), (1, .int v1)] []
  unfold X0_windAt at h
  refine r_aload_n (pc' := 1) C dX0_windAt_0 rfl 0 rfl ?_
  refine r_getI (pc' := 4) C flX0_34 sh_5 rfl dX0_windAt_1 rfl ?_
  refine r_iconst (pc' := 5) C dX0_windAt_4 rfl kc_1 ?_
  refine r_icmp_lt (tgt := 17) (pc' := 8) C dX0_windAt_5 rfl rfl (fun c1 => ?_) (fun c1 => ?_)
  · rw [if_pos c1] at h
    refine r_iconst (pc' := 18) C dX0_windAt_17 rfl kc_0 ?_
    have h := Option.some.inj h
    subst h
    exact r_ret C rfl dX0_windAt_18 hE
  · rw [if_neg c1] at h
    refine r_aload_n (pc' := 9) C dX0_windAt_8 rfl 0 rfl ?_
    refine r_getI (pc' := 12) C flX0_34 sh_5 rfl dX0_windAt_9 rfl ?_
    refine r_bipush (pc' := 14) C dX0_windAt_12 rfl kb_20 ?_
    refine r_icmp_le (tgt := 19) (pc' := 17) C dX0_windAt_14 rfl rfl (fun c2 => ?_) (fun c2 => ?_)
    · rw [if_pos c2] at h
      refine r_aload_n (pc' := 20) C dX0_windAt_19 rfl 0 rfl ?_
      refine r_getR (pc' := 23) C flX0_31 sh_5 rfl dX0_windAt_20 rfl ?_
      refine r_iload_n (pc' := 24) C dX0_windAt_23 rfl 1 rfl ?_
      refine r_aload_n (pc' := 25) C dX0_windAt_24 rfl 0 rfl ?_
      refine r_getI (pc' := 28) C flX0_34 sh_5 rfl dX0_windAt_25 rfl ?_
      obtain ⟨r3, e4, h⟩ := bd h
      refine r_cS1 (pc' := 31) C (J9_floorMod_7cf53_ok  e4) mlX0_71 ceJ9_floorMod_7cf53 csJ9_floorMod_7cf53 rfl (Nat.le_of_ble_eq_true rfl) rfl (Nat.le_of_ble_eq_true rfl) dX0_windAt_28 rfl (kk := ?_)
      obtain ⟨q5, h⟩ := ck h
      refine r_iald (pc' := 32) C sh_17 (vin q5) dX0_windAt_31 rfl ?_
      have h := Option.some.inj h
      subst h
      exact r_ret C rfl dX0_windAt_32 hE
    · rw [if_neg c2] at h
      refine r_iconst (pc' := 18) C dX0_windAt_17 rfl kc_0 ?_
      have h := Option.some.inj h
      subst h
      exact r_ret C rfl dX0_windAt_18 hE

/-! BorrowedWeight$Rule.combine(III)I -/
def X3_combine (N : Nat)  (v0 : Int32) (v1 : Int32) (v2 : Int32) (σ : Sg) : Option (Int32) :=
  if v0 = 42 then (some (v1 * v2)) else if v0 = 43 then (some (v1 + v2)) else if v0 = 45 then (some (v1 - v2)) else if v0 = 60 then (if v2 ≤ v1 then (some 0) else (some 1)) else if v0 = 61 then (if v1 = v2 then (some 1) else (some 0)) else if v0 = 62 then (if v1 ≤ v2 then (some 0) else (some 1)) else (if v2 = 0 then (some 0) else (if v2 = 0 then none else some (v1 / v2)))
set_option maxRecDepth 100000 in
set_option maxHeartbeats 4000000 in
theorem X3_combine_ok {E : Ev} {S : List Sh}  {N : Nat} {v0 : Int32} {v1 : Int32} {v2 : Int32} {σ : Sg} {r : Int32} (h : X3_combine N  v0 v1 v2 σ = some r) : Cm E (0) yX3_combine cX3_combine 3 (some .int) [.int v0, .int v1, .int v2] S S σ σ (some (.int r)) 0 0 := by
  refine Cm.intro (by decide +kernel) (Nat.le_of_ble_eq_true rfl) (fun _ h => by obtain ⟨_, _, _, _, _, _, h⟩ := h; exact h) (fun Z C hE => ?_)
  show Wm E Z 0 0 S σ 0 [(0, .int v0), (1, .int v1), (2, .int v2)] []
  unfold X3_combine at h
  refine r_iload_n (pc' := 1) C dX3_combine_0 rfl 0 rfl ?_
  by_cases c1 : v0 = 42
  · rw [if_pos c1] at h
    refine r_look (tgt := 101) C dX3_combine_1 rfl (by first | (rw [c1]; done) | (rw [c1]; rfl)) rfl ?_
    refine r_iload_n (pc' := 102) C dX3_combine_101 rfl 1 rfl ?_
    refine r_iload_n (pc' := 103) C dX3_combine_102 rfl 2 rfl ?_
    refine r_imul (pc' := 104) C dX3_combine_103 rfl ?_
    have h := Option.some.inj h
    subst h
    exact r_ret C rfl dX3_combine_104 hE
  rw [if_neg c1] at h
  by_cases c2 : v0 = 43
  · rw [if_pos c2] at h
    refine r_look (tgt := 93) C dX3_combine_1 rfl (by first | (rw [c2]; done) | (rw [c2]; rfl)) rfl ?_
    refine r_iload_n (pc' := 94) C dX3_combine_93 rfl 1 rfl ?_
    refine r_iload_n (pc' := 95) C dX3_combine_94 rfl 2 rfl ?_
    refine r_iadd (pc' := 96) C dX3_combine_95 rfl ?_
    have h := Option.some.inj h
    subst h
    exact r_ret C rfl dX3_combine_96 hE
  rw [if_neg c2] at h
  by_cases c3 : v0 = 45
  · rw [if_pos c3] at h
    refine r_look (tgt := 97) C dX3_combine_1 rfl (by first | (rw [c3]; done) | (rw [c3]; rfl)) rfl ?_
    refine r_iload_n (pc' := 98) C dX3_combine_97 rfl 1 rfl ?_
    refine r_iload_n (pc' := 99) C dX3_combine_98 rfl 2 rfl ?_
    refine r_isub (pc' := 100) C dX3_combine_99 rfl ?_
    have h := Option.some.inj h
    subst h
    exact r_ret C rfl dX3_combine_100 hE
  rw [if_neg c3] at h
  by_cases c4 : v0 = 60
  · rw [if_pos c4] at h
    refine r_look (tgt := 60) C dX3_combine_1 rfl (by first | (rw [c4]; done) | (rw [c4]; rfl)) rfl ?_
    refine r_iload_n (pc' := 61) C dX3_combine_60 rfl 1 rfl ?_
    refine r_iload_n (pc' := 62) C dX3_combine_61 rfl 2 rfl ?_
    refine r_icmp_ge (tgt := 69) (pc' := 65) C dX3_combine_62 rfl rfl (fun c5 => ?_) (fun c5 => ?_)
    · rw [if_pos c5] at h
      refine r_iconst (pc' := 70) C dX3_combine_69 rfl kc_0 ?_
      have h := Option.some.inj h
      subst h
      exact r_ret C rfl dX3_combine_70 hE
    · rw [if_neg c5] at h
      refine r_iconst (pc' := 66) C dX3_combine_65 rfl kc_1 ?_
      refine r_goto (tgt := 70) C dX3_combine_66 rfl ?_
      have h := Option.some.inj h
      subst h
      exact r_ret C rfl dX3_combine_70 hE
  rw [if_neg c4] at h
  by_cases c6 : v0 = 61
  · rw [if_pos c6] at h
    refine r_look (tgt := 82) C dX3_combine_1 rfl (by first | (rw [c6]; done) | (rw [c6]; rfl)) rfl ?_
    refine r_iload_n (pc' := 83) C dX3_combine_82 rfl 1 rfl ?_
    refine r_iload_n (pc' := 84) C dX3_combine_83 rfl 2 rfl ?_
    refine r_icmp_ne (tgt := 91) (pc' := 87) C dX3_combine_84 rfl rfl (fun c7 => ?_) (fun c7 => ?_)
    · rw [if_neg c7] at h
      refine r_iconst (pc' := 92) C dX3_combine_91 rfl kc_0 ?_
      have h := Option.some.inj h
      subst h
      exact r_ret C rfl dX3_combine_92 hE
    · rw [if_pos c7] at h
      refine r_iconst (pc' := 88) C dX3_combine_87 rfl kc_1 ?_
      refine r_goto (tgt := 92) C dX3_combine_88 rfl ?_
      have h := Option.some.inj h
      subst h
      exact r_ret C rfl dX3_combine_92 hE
  rw [if_neg c6] at h
  by_cases c8 : v0 = 62
  · rw [if_pos c8] at h
    refine r_look (tgt := 71) C dX3_combine_1 rfl (by first | (rw [c8]; done) | (rw [c8]; rfl)) rfl ?_
    refine r_iload_n (pc' := 72) C dX3_combine_71 rfl 1 rfl ?_
    refine r_iload_n (pc' := 73) C dX3_combine_72 rfl 2 rfl ?_
    refine r_icmp_le (tgt := 80) (pc' := 76) C dX3_combine_73 rfl rfl (fun c9 => ?_) (fun c9 => ?_)
    · rw [if_pos c9] at h
      refine r_iconst (pc' := 81) C dX3_combine_80 rfl kc_0 ?_
      have h := Option.some.inj h
      subst h
      exact r_ret C rfl dX3_combine_81 hE
    · rw [if_neg c9] at h
      refine r_iconst (pc' := 77) C dX3_combine_76 rfl kc_1 ?_
      refine r_goto (tgt := 81) C dX3_combine_77 rfl ?_
      have h := Option.some.inj h
      subst h
      exact r_ret C rfl dX3_combine_81 hE
  rw [if_neg c8] at h
  refine r_look (tgt := 105) C dX3_combine_1 rfl (look_out (List.forall_mem_cons.mpr ⟨c1, (List.forall_mem_cons.mpr ⟨c2, (List.forall_mem_cons.mpr ⟨c3, (List.forall_mem_cons.mpr ⟨c4, (List.forall_mem_cons.mpr ⟨c6, (List.forall_mem_cons.mpr ⟨c8, (fun _ h => nomatch h)⟩)⟩)⟩)⟩)⟩)⟩)) rfl ?_
  refine r_iload_n (pc' := 106) C dX3_combine_105 rfl 2 rfl ?_
  refine r_if_ne (tgt := 113) (pc' := 109) C dX3_combine_106 rfl rfl (fun c10 => ?_) (fun c10 => ?_)
  · rw [if_neg c10] at h
    refine r_iload_n (pc' := 114) C dX3_combine_113 rfl 1 rfl ?_
    refine r_iload_n (pc' := 115) C dX3_combine_114 rfl 2 rfl ?_
    obtain ⟨q11, h⟩ := ck0 h
    refine r_idiv (pc' := 116) C dX3_combine_115 rfl q11 ?_
    have h := Option.some.inj h
    subst h
    exact r_ret C rfl dX3_combine_116 hE
  · rw [if_pos c10] at h
    refine r_iconst (pc' := 110) C dX3_combine_109 rfl kc_0 ?_
    refine r_goto (tgt := 116) C dX3_combine_110 rfl ?_
    have h := Option.some.inj h
    subst h
    exact r_ret C rfl dX3_combine_116 hE

/-! BorrowedWeight$Rule.valueOf([I)I -/
def X3_valueOf_l4 (N : Nat) (k0 : Nat)   : Nat → Int32 → Int32 → Sg → Option (Int32 × Sg)
  | 0, _, _, _ => none
  | n + 1, v2, v3, σ =>
    if (gi σ k0 3) ≤ v3 then (if inb 0 40 = true then some (gi σ (k0 + 2) (0 : Int32).toNatClampNeg, σ) else none) else (if 40 ≤ v2 then (if inb 0 40 = true then some (gi σ (k0 + 2) (0 : Int32).toNatClampNeg, σ) else none) else (if inb v3 40 = true then if 1000 ≤ (gi σ (k0 + 1) v3.toNatClampNeg) then (if 1008 ≤ (gi σ (k0 + 1) v3.toNatClampNeg) then (if (gi σ (k0 + 1) v3.toNatClampNeg) = 1134 then (if v2 ≤ 0 then (X3_valueOf_l4 N k0 n v2 (v3 + 1) σ) else (if inb (v2 - 1) 40 = true then if inb (v2 - 1) 40 = true then bnS (wi σ (k0 + 2) (v2 - 1).toNatClampNeg (-(gi σ (k0 + 2) (v2 - 1).toNatClampNeg))) fun σ20 => X3_valueOf_l4 N k0 n v2 (v3 + 1) σ20 else none else none)) else (if v2 ≤ 1 then (X3_valueOf_l4 N k0 n v2 (v3 + 1) σ) else (if inb ((v2 + (-1)) - 1) 40 = true then if inb (v2 + (-1)) 40 = true then (X3_combine N ((gi σ (k0 + 1) v3.toNatClampNeg) - 1008) (gi σ (k0 + 2) ((v2 + (-1)) - 1).toNatClampNeg) (gi σ (k0 + 2) (v2 + (-1)).toNatClampNeg) σ).bind fun r12 => (if inb ((v2 + (-1)) - 1) 40 = true then bnS (wi σ (k0 + 2) ((v2 + (-1)) - 1).toNatClampNeg r12) fun σ15 => X3_valueOf_l4 N k0 n (v2 + (-1)) (v3 + 1) σ15 else none) else none else none))) else (if inb ((gi σ (k0 + 1) v3.toNatClampNeg) - 1000) 8 = true then if inb v2 40 = true then bnS (wi σ (k0 + 2) v2.toNatClampNeg (gi σ 18 ((gi σ (k0 + 1) v3.toNatClampNeg) - 1000).toNatClampNeg)) fun σ24 => X3_valueOf_l4 N k0 n (v2 + 1) (v3 + 1) σ24 else none else none)) else (if inb v2 40 = true then bnS (wi σ (k0 + 2) v2.toNatClampNeg (gi σ (k0 + 1) v3.toNatClampNeg)) fun σ27 => X3_valueOf_l4 N k0 n (v2 + 1) (v3 + 1) σ27 else none) else none))
set_option maxRecDepth 100000 in
set_option maxHeartbeats 4000000 in
theorem X3_valueOf_l4_ok {E : Ev} {k0 : Nat} (hk0 : RuAt SH0 k0) {N : Nat}    : ∀ (n : Nat) (v2 : Int32) (v3 : Int32) (σ : Sg) (r : Int32 × Sg), X3_valueOf_l4 N k0 n v2 v3 σ = some r → Gp E RX3 cX3_valueOf (some .int) 5 (1) SH0 r.2 (some (.int r.1)) σ 4 [(0, .ref k0), (1, .ref 18), (2, .int v2), (3, .int v3)] [] := by
  intro n
  induction n with
  | zero => intro v2 v3 σ r h; cases h
  | succ n ih =>
    intro v2 v3 σ r h Z C hE
    unfold X3_valueOf_l4 at h
    refine r_iload_n (pc' := 5) C dX3_valueOf_4 rfl 3 rfl ?_
    refine r_aload_n (pc' := 6) C dX3_valueOf_5 rfl 0 rfl ?_
    refine r_getI (pc' := 9) C flX3_29 (ru0 hk0) rfl dX3_valueOf_6 rfl ?_
    refine r_icmp_ge (tgt := 153) (pc' := 12) C dX3_valueOf_9 rfl rfl (fun c1 => ?_) (fun c1 => ?_)
    · rw [if_pos c1] at h
      refine r_aload_n (pc' := 154) C dX3_valueOf_153 rfl 0 rfl ?_
      refine r_getR (pc' := 157) C flX3_15 (ru0 hk0) rfl dX3_valueOf_154 rfl ?_
      refine r_iconst (pc' := 158) C dX3_valueOf_157 rfl kc_0 ?_
      obtain ⟨q2, h⟩ := ck h
      refine r_iald (pc' := 159) C (ru2 hk0) (vin q2) dX3_valueOf_158 rfl ?_
      have h := Option.some.inj h
      subst h
      exact r_ret C rfl dX3_valueOf_159 hE
    · rw [if_neg c1] at h
      refine r_iload_n (pc' := 13) C dX3_valueOf_12 rfl 2 rfl ?_
      refine r_bipush (pc' := 15) C dX3_valueOf_13 rfl kb_40 ?_
      refine r_icmp_ge (tgt := 153) (pc' := 18) C dX3_valueOf_15 rfl rfl (fun c3 => ?_) (fun c3 => ?_)
      · rw [if_pos c3] at h
        refine r_aload_n (pc' := 154) C dX3_valueOf_153 rfl 0 rfl ?_
        refine r_getR (pc' := 157) C flX3_15 (ru0 hk0) rfl dX3_valueOf_154 rfl ?_
        refine r_iconst (pc' := 158) C dX3_valueOf_157 rfl kc_0 ?_
        obtain ⟨q4, h⟩ := ck h
        refine r_iald (pc' := 159) C (ru2 hk0) (vin q4) dX3_valueOf_158 rfl ?_
        have h := Option.some.inj h
        subst h
        exact r_ret C rfl dX3_valueOf_159 hE
      · rw [if_neg c3] at h
        refine r_aload_n (pc' := 19) C dX3_valueOf_18 rfl 0 rfl ?_
        refine r_getR (pc' := 22) C flX3_11 (ru0 hk0) rfl dX3_valueOf_19 rfl ?_
        refine r_iload_n (pc' := 23) C dX3_valueOf_22 rfl 3 rfl ?_
        obtain ⟨q5, h⟩ := ck h
        refine r_iald (pc' := 24) C (ru1 hk0) (vin q5) dX3_valueOf_23 rfl ?_
        refine r_istore (pc' := 26) (lv2 := [(4, .int (gi σ (k0 + 1) v3.toNatClampNeg)), (0, .ref k0), (1, .ref 18), (2, .int v2), (3, .int v3)]) C dX3_valueOf_24 rfl (Nat.le_of_ble_eq_true rfl) rfl ?_
        refine r_iload (pc' := 28) C dX3_valueOf_26 rfl 0 rfl ?_
        refine r_sipush (pc' := 31) C dX3_valueOf_28 rfl ks_1000 ?_
        refine r_icmp_ge (tgt := 48) (pc' := 34) C dX3_valueOf_31 rfl rfl (fun c6 => ?_) (fun c6 => ?_)
        · rw [if_pos c6] at h
          refine r_iload (pc' := 50) C dX3_valueOf_48 rfl 0 rfl ?_
          refine r_sipush (pc' := 53) C dX3_valueOf_50 rfl ks_1008 ?_
          refine r_icmp_ge (tgt := 76) (pc' := 56) C dX3_valueOf_53 rfl rfl (fun c7 => ?_) (fun c7 => ?_)
          · rw [if_pos c7] at h
            refine r_iload (pc' := 78) C dX3_valueOf_76 rfl 0 rfl ?_
            refine r_sipush (pc' := 81) C dX3_valueOf_78 rfl ks_1134 ?_
            refine r_icmp_ne (tgt := 108) (pc' := 84) C dX3_valueOf_81 rfl rfl (fun c8 => ?_) (fun c8 => ?_)
            · rw [if_neg c8] at h
              refine r_iload_n (pc' := 109) C dX3_valueOf_108 rfl 3 rfl ?_
              refine r_iconst (pc' := 110) C dX3_valueOf_109 rfl kc_1 ?_
              refine r_icmp_le (tgt := 147) (pc' := 113) C dX3_valueOf_110 rfl rfl (fun c9 => ?_) (fun c9 => ?_)
              · rw [if_pos c9] at h
                refine r_iinc (pc' := 150) (v := v3 + 1) (lv2 := [(3, .int (v3 + 1)), (4, .int (gi σ (k0 + 1) v3.toNatClampNeg)), (0, .ref k0), (1, .ref 18), (2, .int v2)]) C dX3_valueOf_147 rfl 4 rfl rfl (Nat.le_of_ble_eq_true rfl) rfl ?_
                refine r_goto (tgt := 4) C dX3_valueOf_150 rfl ?_
                refine r_sub [2, 3, 4, 0] rfl ?_
                exact ih _ _ _ _ h Z C hE
              · rw [if_neg c9] at h
                refine r_iinc (pc' := 116) (v := v2 + (-1)) (lv2 := [(2, .int (v2 + (-1))), (4, .int (gi σ (k0 + 1) v3.toNatClampNeg)), (0, .ref k0), (1, .ref 18), (3, .int v3)]) C dX3_valueOf_113 rfl 3 rfl rfl (Nat.le_of_ble_eq_true rfl) rfl ?_
                refine r_aload_n (pc' := 117) C dX3_valueOf_116 rfl 2 rfl ?_
                refine r_getR (pc' := 120) C flX3_15 (ru0 hk0) rfl dX3_valueOf_117 rfl ?_
                refine r_iload_n (pc' := 121) C dX3_valueOf_120 rfl 0 rfl ?_
                refine r_iconst (pc' := 122) C dX3_valueOf_121 rfl kc_1 ?_
                refine r_isub (pc' := 123) C dX3_valueOf_122 rfl ?_
                refine r_iload (pc' := 125) C dX3_valueOf_123 rfl 1 rfl ?_
                refine r_sipush (pc' := 128) C dX3_valueOf_125 rfl ks_1008 ?_
                refine r_isub (pc' := 129) C dX3_valueOf_128 rfl ?_
                refine r_aload_n (pc' := 130) C dX3_valueOf_129 rfl 2 rfl ?_
                refine r_getR (pc' := 133) C flX3_15 (ru0 hk0) rfl dX3_valueOf_130 rfl ?_
                refine r_iload_n (pc' := 134) C dX3_valueOf_133 rfl 0 rfl ?_
                refine r_iconst (pc' := 135) C dX3_valueOf_134 rfl kc_1 ?_
                refine r_isub (pc' := 136) C dX3_valueOf_135 rfl ?_
                obtain ⟨q10, h⟩ := ck h
                refine r_iald (pc' := 137) C (ru2 hk0) (vin q10) dX3_valueOf_136 rfl ?_
                refine r_aload_n (pc' := 138) C dX3_valueOf_137 rfl 2 rfl ?_
                refine r_getR (pc' := 141) C flX3_15 (ru0 hk0) rfl dX3_valueOf_138 rfl ?_
                refine r_iload_n (pc' := 142) C dX3_valueOf_141 rfl 0 rfl ?_
                obtain ⟨q11, h⟩ := ck h
                refine r_iald (pc' := 143) C (ru2 hk0) (vin q11) dX3_valueOf_142 rfl ?_
                obtain ⟨r12, e13, h⟩ := bd h
                refine r_cS1 (pc' := 146) C (X3_combine_ok  e13) mlX3_94 ceX3_combine csX3_combine rfl (Nat.le_of_ble_eq_true rfl) rfl (Nat.le_of_ble_eq_true rfl) dX3_valueOf_143 rfl (kk := ?_)
                obtain ⟨q14, h⟩ := ck h
                obtain ⟨σ15, e16, h⟩ := bs h
                refine r_iast (pc' := 147) (σ1 := σ15) C (ru2 hk0) (vin q14) dX3_valueOf_146 rfl e16 ?_
                refine r_iinc (pc' := 150) (v := v3 + 1) (lv2 := [(3, .int (v3 + 1)), (2, .int (v2 + (-1))), (4, .int (gi σ (k0 + 1) v3.toNatClampNeg)), (0, .ref k0), (1, .ref 18)]) C dX3_valueOf_147 rfl 4 rfl rfl (Nat.le_of_ble_eq_true rfl) rfl ?_
                refine r_goto (tgt := 4) C dX3_valueOf_150 rfl ?_
                refine r_sub [3, 4, 1, 0] rfl ?_
                exact ih _ _ _ _ h Z C hE
            · rw [if_pos c8] at h
              refine r_iload_n (pc' := 85) C dX3_valueOf_84 rfl 3 rfl ?_
              refine r_if_le (tgt := 147) (pc' := 88) C dX3_valueOf_85 rfl rfl (fun c17 => ?_) (fun c17 => ?_)
              · rw [if_pos c17] at h
                refine r_iinc (pc' := 150) (v := v3 + 1) (lv2 := [(3, .int (v3 + 1)), (4, .int (gi σ (k0 + 1) v3.toNatClampNeg)), (0, .ref k0), (1, .ref 18), (2, .int v2)]) C dX3_valueOf_147 rfl 4 rfl rfl (Nat.le_of_ble_eq_true rfl) rfl ?_
                refine r_goto (tgt := 4) C dX3_valueOf_150 rfl ?_
                refine r_sub [2, 3, 4, 0] rfl ?_
                exact ih _ _ _ _ h Z C hE
              · rw [if_neg c17] at h
                refine r_aload_n (pc' := 89) C dX3_valueOf_88 rfl 1 rfl ?_
                refine r_getR (pc' := 92) C flX3_15 (ru0 hk0) rfl dX3_valueOf_89 rfl ?_
                refine r_iload_n (pc' := 93) C dX3_valueOf_92 rfl 3 rfl ?_
                refine r_iconst (pc' := 94) C dX3_valueOf_93 rfl kc_1 ?_
                refine r_isub (pc' := 95) C dX3_valueOf_94 rfl ?_
                refine r_aload_n (pc' := 96) C dX3_valueOf_95 rfl 1 rfl ?_
                refine r_getR (pc' := 99) C flX3_15 (ru0 hk0) rfl dX3_valueOf_96 rfl ?_
                refine r_iload_n (pc' := 100) C dX3_valueOf_99 rfl 3 rfl ?_
                refine r_iconst (pc' := 101) C dX3_valueOf_100 rfl kc_1 ?_
                refine r_isub (pc' := 102) C dX3_valueOf_101 rfl ?_
                obtain ⟨q18, h⟩ := ck h
                refine r_iald (pc' := 103) C (ru2 hk0) (vin q18) dX3_valueOf_102 rfl ?_
                refine r_ineg (pc' := 104) C dX3_valueOf_103 rfl ?_
                obtain ⟨q19, h⟩ := ck h
                obtain ⟨σ20, e21, h⟩ := bs h
                refine r_iast (pc' := 105) (σ1 := σ20) C (ru2 hk0) (vin q19) dX3_valueOf_104 rfl e21 ?_
                refine r_goto (tgt := 147) C dX3_valueOf_105 rfl ?_
                refine r_iinc (pc' := 150) (v := v3 + 1) (lv2 := [(3, .int (v3 + 1)), (4, .int (gi σ (k0 + 1) v3.toNatClampNeg)), (0, .ref k0), (1, .ref 18), (2, .int v2)]) C dX3_valueOf_147 rfl 4 rfl rfl (Nat.le_of_ble_eq_true rfl) rfl ?_
                refine r_goto (tgt := 4) C dX3_valueOf_150 rfl ?_
                refine r_sub [2, 3, 4, 0] rfl ?_
                exact ih _ _ _ _ h Z C hE
          · rw [if_neg c7] at h
            refine r_aload_n (pc' := 57) C dX3_valueOf_56 rfl 1 rfl ?_
            refine r_getR (pc' := 60) C flX3_15 (ru0 hk0) rfl dX3_valueOf_57 rfl ?_
            refine r_iload_n (pc' := 61) C dX3_valueOf_60 rfl 3 rfl ?_
            refine r_aload_n (pc' := 62) C dX3_valueOf_61 rfl 2 rfl ?_
            refine r_iload (pc' := 64) C dX3_valueOf_62 rfl 0 rfl ?_
            refine r_sipush (pc' := 67) C dX3_valueOf_64 rfl ks_1000 ?_
            refine r_isub (pc' := 68) C dX3_valueOf_67 rfl ?_
            obtain ⟨q22, h⟩ := ck h
            refine r_iald (pc' := 69) C sh_18 (vin q22) dX3_valueOf_68 rfl ?_
            obtain ⟨q23, h⟩ := ck h
            obtain ⟨σ24, e25, h⟩ := bs h
            refine r_iast (pc' := 70) (σ1 := σ24) C (ru2 hk0) (vin q23) dX3_valueOf_69 rfl e25 ?_
            refine r_iinc (pc' := 73) (v := v2 + 1) (lv2 := [(2, .int (v2 + 1)), (4, .int (gi σ (k0 + 1) v3.toNatClampNeg)), (0, .ref k0), (1, .ref 18), (3, .int v3)]) C dX3_valueOf_70 rfl 3 rfl rfl (Nat.le_of_ble_eq_true rfl) rfl ?_
            refine r_goto (tgt := 147) C dX3_valueOf_73 rfl ?_
            refine r_iinc (pc' := 150) (v := v3 + 1) (lv2 := [(3, .int (v3 + 1)), (2, .int (v2 + 1)), (4, .int (gi σ (k0 + 1) v3.toNatClampNeg)), (0, .ref k0), (1, .ref 18)]) C dX3_valueOf_147 rfl 4 rfl rfl (Nat.le_of_ble_eq_true rfl) rfl ?_
            refine r_goto (tgt := 4) C dX3_valueOf_150 rfl ?_
            refine r_sub [3, 4, 1, 0] rfl ?_
            exact ih _ _ _ _ h Z C hE
        · rw [if_neg c6] at h
          refine r_aload_n (pc' := 35) C dX3_valueOf_34 rfl 1 rfl ?_
          refine r_getR (pc' := 38) C flX3_15 (ru0 hk0) rfl dX3_valueOf_35 rfl ?_
          refine r_iload_n (pc' := 39) C dX3_valueOf_38 rfl 3 rfl ?_
          refine r_iload (pc' := 41) C dX3_valueOf_39 rfl 0 rfl ?_
          obtain ⟨q26, h⟩ := ck h
          obtain ⟨σ27, e28, h⟩ := bs h
          refine r_iast (pc' := 42) (σ1 := σ27) C (ru2 hk0) (vin q26) dX3_valueOf_41 rfl e28 ?_
          refine r_iinc (pc' := 45) (v := v2 + 1) (lv2 := [(2, .int (v2 + 1)), (4, .int (gi σ (k0 + 1) v3.toNatClampNeg)), (0, .ref k0), (1, .ref 18), (3, .int v3)]) C dX3_valueOf_42 rfl 3 rfl rfl (Nat.le_of_ble_eq_true rfl) rfl ?_
          refine r_goto (tgt := 147) C dX3_valueOf_45 rfl ?_
          refine r_iinc (pc' := 150) (v := v3 + 1) (lv2 := [(3, .int (v3 + 1)), (2, .int (v2 + 1)), (4, .int (gi σ (k0 + 1) v3.toNatClampNeg)), (0, .ref k0), (1, .ref 18)]) C dX3_valueOf_147 rfl 4 rfl rfl (Nat.le_of_ble_eq_true rfl) rfl ?_
          refine r_goto (tgt := 4) C dX3_valueOf_150 rfl ?_
          refine r_sub [3, 4, 1, 0] rfl ?_
          exact ih _ _ _ _ h Z C hE
def X3_valueOf (N : Nat) (k0 : Nat)  (σ : Sg) : Option (Int32 × Sg) :=
  X3_valueOf_l4 N k0 N 0 0 σ
set_option maxRecDepth 100000 in
set_option maxHeartbeats 4000000 in
theorem X3_valueOf_ok {E : Ev} {k0 : Nat} (hk0 : RuAt SH0 k0) {N : Nat}  {σ : Sg} {r : Int32 × Sg} (h : X3_valueOf N k0  σ = some r) : Cm E (1) yX3_valueOf cX3_valueOf 5 (some .int) [.ref k0, .ref 18] SH0 SH0 σ r.2 (some (.int r.1)) 0 0 := by
  refine Cm.intro (by decide +kernel) (Nat.le_of_ble_eq_true rfl) (fun _ h => by obtain ⟨_, _, _, _, _, _, h⟩ := h; exact h) (fun Z C hE => ?_)
  show Wm E Z 0 0 SH0 σ 0 [(0, .ref k0), (1, .ref 18)] []
  unfold X3_valueOf at h
  refine r_iconst (pc' := 1) C dX3_valueOf_0 rfl kc_0 ?_
  refine r_istore_n (pc' := 2) (lv2 := [(2, .int 0), (0, .ref k0), (1, .ref 18)]) C dX3_valueOf_1 rfl rfl (Nat.le_of_ble_eq_true rfl) rfl ?_
  refine r_iconst (pc' := 3) C dX3_valueOf_2 rfl kc_0 ?_
  refine r_istore_n (pc' := 4) (lv2 := [(3, .int 0), (2, .int 0), (0, .ref k0), (1, .ref 18)]) C dX3_valueOf_3 rfl rfl (Nat.le_of_ble_eq_true rfl) rfl ?_
  refine r_sub [2, 3, 1, 0] rfl ?_
  exact X3_valueOf_l4_ok hk0 N _ _ _ _ h Z C hE

/-! BorrowedWeight$Land.weigh(LBorrowedWeight$State;LBorrowedWeight$Rule;)V -/
def X0_weigh_l32 (N : Nat) (k1 : Nat) (k2 : Nat)   : Nat → Int32 → Sg → Option (Sg)
  | 0, _, _ => none
  | n + 1, v3, σ =>
    if (gi σ 5 1) ≤ v3 then (some σ) else ((X5_isGone N k1 v3 σ).bind fun r12 => (if r12 = 0 then (if inb v3 8 = true then if inb 0 8 = true then bnS (wi σ 18 (0 : Int32).toNatClampNeg (gi σ 6 v3.toNatClampNeg)) fun σ17 => if inb v3 8 = true then (J6_bitCount_0f7a4 N (gi σ17 (k1 + 4) v3.toNatClampNeg) σ17).bind fun r20 => (if inb 2 8 = true then bnS (wi σ17 18 (2 : Int32).toNatClampNeg r20) fun σ23 => if inb v3 8 = true then if inb 3 8 = true then bnS (wi σ23 18 (3 : Int32).toNatClampNeg (gi σ23 (k1 + 1) v3.toNatClampNeg)) fun σ27 => if inb v3 8 = true then if inb 4 8 = true then bnS (wi σ27 18 (4 : Int32).toNatClampNeg (gi σ27 (k1 + 2) v3.toNatClampNeg)) fun σ31 => if inb v3 8 = true then if inb 5 8 = true then bnS (wi σ31 18 (5 : Int32).toNatClampNeg (gi σ31 (k1 + 3) v3.toNatClampNeg)) fun σ35 => if inb 6 8 = true then bnS (wi σ35 18 (6 : Int32).toNatClampNeg v3) fun σ38 => (X3_valueOf N k2 σ38).bind fun r40 => ((J9_min_7cf53 N 9 r40.1 r40.2).bind fun r42 => ((J9_max_7cf53 N 0 r42 r40.2).bind fun r44 => (if inb v3 8 = true then bnS (wi r40.2 15 v3.toNatClampNeg r44) fun σ47 => X0_weigh_l32 N k1 k2 n (v3 + 1) σ47 else none))) else none else none else none else none else none else none else none else none) else none else none else none) else (if inb v3 8 = true then bnS (wi σ 15 v3.toNatClampNeg 0) fun σ50 => X0_weigh_l32 N k1 k2 n (v3 + 1) σ50 else none)))
set_option maxRecDepth 100000 in
set_option maxHeartbeats 4000000 in
theorem X0_weigh_l32_ok {E : Ev} {k1 : Nat} (hk1 : StAt SH0 k1) {k2 : Nat} (hk2 : RuAt SH0 k2) {N : Nat}    : ∀ (n : Nat) (v3 : Int32) (σ : Sg) (r : Sg), X0_weigh_l32 N k1 k2 n v3 σ = some r → Gp E RX0 cX0_weigh none 4 (2) SH0 r (none) σ 32 [(0, .ref 5), (1, .ref k1), (2, .ref k2), (3, .int v3)] [] := by
  intro n
  induction n with
  | zero => intro v3 σ r h; cases h
  | succ n ih =>
    intro v3 σ r h Z C hE
    unfold X0_weigh_l32 at h
    refine r_iload_n (pc' := 33) C dX0_weigh_32 rfl 3 rfl ?_
    refine r_aload_n (pc' := 34) C dX0_weigh_33 rfl 0 rfl ?_
    refine r_getI (pc' := 37) C flX0_41 sh_5 rfl dX0_weigh_34 rfl ?_
    refine r_icmp_ge (tgt := 158) (pc' := 40) C dX0_weigh_37 rfl rfl (fun c11 => ?_) (fun c11 => ?_)
    · rw [if_pos c11] at h
      have h := Option.some.inj h
      subst h
      exact r_vret C dX0_weigh_158 hE
    · rw [if_neg c11] at h
      refine r_aload_n (pc' := 41) C dX0_weigh_40 rfl 1 rfl ?_
      refine r_iload_n (pc' := 42) C dX0_weigh_41 rfl 3 rfl ?_
      obtain ⟨r12, e13, h⟩ := bd h
      refine r_cV1 (pc' := 45) C (X5_isGone_ok hk1 e13) mlX0_80 ceX5_isGone cvX5_isGone (st0 hk1) rfl rfl rfl (Nat.le_of_ble_eq_true rfl) rfl (Nat.le_of_ble_eq_true rfl) dX0_weigh_42 rfl (kk := ?_)
      refine r_if_eq (tgt := 58) (pc' := 48) C dX0_weigh_45 rfl rfl (fun c14 => ?_) (fun c14 => ?_)
      · rw [if_pos c14] at h
        refine r_aload_n (pc' := 59) C dX0_weigh_58 rfl 0 rfl ?_
        refine r_getR (pc' := 62) C flX0_38 sh_5 rfl dX0_weigh_59 rfl ?_
        refine r_iconst (pc' := 63) C dX0_weigh_62 rfl kc_0 ?_
        refine r_aload_n (pc' := 64) C dX0_weigh_63 rfl 0 rfl ?_
        refine r_getR (pc' := 67) C flX0_9 sh_5 rfl dX0_weigh_64 rfl ?_
        refine r_iload_n (pc' := 68) C dX0_weigh_67 rfl 3 rfl ?_
        obtain ⟨q15, h⟩ := ck h
        refine r_iald (pc' := 69) C sh_6 (vin q15) dX0_weigh_68 rfl ?_
        obtain ⟨q16, h⟩ := ck h
        obtain ⟨σ17, e18, h⟩ := bs h
        refine r_iast (pc' := 70) (σ1 := σ17) C sh_18 (vin q16) dX0_weigh_69 rfl e18 ?_
        refine r_aload_n (pc' := 71) C dX0_weigh_70 rfl 0 rfl ?_
        refine r_getR (pc' := 74) C flX0_38 sh_5 rfl dX0_weigh_71 rfl ?_
        refine r_iconst (pc' := 75) C dX0_weigh_74 rfl kc_2 ?_
        refine r_aload_n (pc' := 76) C dX0_weigh_75 rfl 1 rfl ?_
        refine r_getR (pc' := 79) C flX0_84 (st0 hk1) rfl dX0_weigh_76 rfl ?_
        refine r_iload_n (pc' := 80) C dX0_weigh_79 rfl 3 rfl ?_
        obtain ⟨q19, h⟩ := ck h
        refine r_iald (pc' := 81) C (st4 hk1) (vin q19) dX0_weigh_80 rfl ?_
        obtain ⟨r20, e21, h⟩ := bd h
        refine r_cS1 (pc' := 84) C (J6_bitCount_0f7a4_ok  e21) mlX0_87 ceJ6_bitCount_0f7a4 csJ6_bitCount_0f7a4 rfl (Nat.le_of_ble_eq_true rfl) rfl (Nat.le_of_ble_eq_true rfl) dX0_weigh_81 rfl (kk := ?_)
        obtain ⟨q22, h⟩ := ck h
        obtain ⟨σ23, e24, h⟩ := bs h
        refine r_iast (pc' := 85) (σ1 := σ23) C sh_18 (vin q22) dX0_weigh_84 rfl e24 ?_
        refine r_aload_n (pc' := 86) C dX0_weigh_85 rfl 0 rfl ?_
        refine r_getR (pc' := 89) C flX0_38 sh_5 rfl dX0_weigh_86 rfl ?_
        refine r_iconst (pc' := 90) C dX0_weigh_89 rfl kc_3 ?_
        refine r_aload_n (pc' := 91) C dX0_weigh_90 rfl 1 rfl ?_
        refine r_getR (pc' := 94) C flX0_92 (st0 hk1) rfl dX0_weigh_91 rfl ?_
        refine r_iload_n (pc' := 95) C dX0_weigh_94 rfl 3 rfl ?_
        obtain ⟨q25, h⟩ := ck h
        refine r_iald (pc' := 96) C (st1 hk1) (vin q25) dX0_weigh_95 rfl ?_
        obtain ⟨q26, h⟩ := ck h
        obtain ⟨σ27, e28, h⟩ := bs h
        refine r_iast (pc' := 97) (σ1 := σ27) C sh_18 (vin q26) dX0_weigh_96 rfl e28 ?_
        refine r_aload_n (pc' := 98) C dX0_weigh_97 rfl 0 rfl ?_
        refine r_getR (pc' := 101) C flX0_38 sh_5 rfl dX0_weigh_98 rfl ?_
        refine r_iconst (pc' := 102) C dX0_weigh_101 rfl kc_4 ?_
        refine r_aload_n (pc' := 103) C dX0_weigh_102 rfl 1 rfl ?_
        refine r_getR (pc' := 106) C flX0_95 (st0 hk1) rfl dX0_weigh_103 rfl ?_
        refine r_iload_n (pc' := 107) C dX0_weigh_106 rfl 3 rfl ?_
        obtain ⟨q29, h⟩ := ck h
        refine r_iald (pc' := 108) C (st2 hk1) (vin q29) dX0_weigh_107 rfl ?_
        obtain ⟨q30, h⟩ := ck h
        obtain ⟨σ31, e32, h⟩ := bs h
        refine r_iast (pc' := 109) (σ1 := σ31) C sh_18 (vin q30) dX0_weigh_108 rfl e32 ?_
        refine r_aload_n (pc' := 110) C dX0_weigh_109 rfl 0 rfl ?_
        refine r_getR (pc' := 113) C flX0_38 sh_5 rfl dX0_weigh_110 rfl ?_
        refine r_iconst (pc' := 114) C dX0_weigh_113 rfl kc_5 ?_
        refine r_aload_n (pc' := 115) C dX0_weigh_114 rfl 1 rfl ?_
        refine r_getR (pc' := 118) C flX0_98 (st0 hk1) rfl dX0_weigh_115 rfl ?_
        refine r_iload_n (pc' := 119) C dX0_weigh_118 rfl 3 rfl ?_
        obtain ⟨q33, h⟩ := ck h
        refine r_iald (pc' := 120) C (st3 hk1) (vin q33) dX0_weigh_119 rfl ?_
        obtain ⟨q34, h⟩ := ck h
        obtain ⟨σ35, e36, h⟩ := bs h
        refine r_iast (pc' := 121) (σ1 := σ35) C sh_18 (vin q34) dX0_weigh_120 rfl e36 ?_
        refine r_aload_n (pc' := 122) C dX0_weigh_121 rfl 0 rfl ?_
        refine r_getR (pc' := 125) C flX0_38 sh_5 rfl dX0_weigh_122 rfl ?_
        refine r_bipush (pc' := 127) C dX0_weigh_125 rfl kb_6 ?_
        refine r_iload_n (pc' := 128) C dX0_weigh_127 rfl 3 rfl ?_
        obtain ⟨q37, h⟩ := ck h
        obtain ⟨σ38, e39, h⟩ := bs h
        refine r_iast (pc' := 129) (σ1 := σ38) C sh_18 (vin q37) dX0_weigh_128 rfl e39 ?_
        refine r_aload_n (pc' := 130) C dX0_weigh_129 rfl 0 rfl ?_
        refine r_getR (pc' := 133) C flX0_25 sh_5 rfl dX0_weigh_130 rfl ?_
        refine r_iload_n (pc' := 134) C dX0_weigh_133 rfl 3 rfl ?_
        refine r_iconst (pc' := 135) C dX0_weigh_134 rfl kc_0 ?_
        refine r_bipush (pc' := 137) C dX0_weigh_135 rfl kb_9 ?_
        refine r_aload_n (pc' := 138) C dX0_weigh_137 rfl 2 rfl ?_
        refine r_aload_n (pc' := 139) C dX0_weigh_138 rfl 0 rfl ?_
        refine r_getR (pc' := 142) C flX0_38 sh_5 rfl dX0_weigh_139 rfl ?_
        obtain ⟨r40, e41, h⟩ := bd h
        refine r_cV1 (pc' := 145) C (X3_valueOf_ok hk2 e41) mlX0_101 ceX3_valueOf cvX3_valueOf (ru0 hk2) rfl rfl rfl (Nat.le_of_ble_eq_true rfl) rfl (Nat.le_of_ble_eq_true rfl) dX0_weigh_142 rfl (kk := ?_)
        obtain ⟨r42, e43, h⟩ := bd h
        refine r_cS1 (pc' := 148) C (J9_min_7cf53_ok  e43) mlX0_53 ceJ9_min_7cf53 csJ9_min_7cf53 rfl (Nat.le_of_ble_eq_true rfl) rfl (Nat.le_of_ble_eq_true rfl) dX0_weigh_145 rfl (kk := ?_)
        obtain ⟨r44, e45, h⟩ := bd h
        refine r_cS1 (pc' := 151) C (J9_max_7cf53_ok  e45) mlX0_59 ceJ9_max_7cf53 csJ9_max_7cf53 rfl (Nat.le_of_ble_eq_true rfl) rfl (Nat.le_of_ble_eq_true rfl) dX0_weigh_148 rfl (kk := ?_)
        obtain ⟨q46, h⟩ := ck h
        obtain ⟨σ47, e48, h⟩ := bs h
        refine r_iast (pc' := 152) (σ1 := σ47) C sh_15 (vin q46) dX0_weigh_151 rfl e48 ?_
        refine r_iinc (pc' := 155) (v := v3 + 1) (lv2 := [(3, .int (v3 + 1)), (0, .ref 5), (1, .ref k1), (2, .ref k2)]) C dX0_weigh_152 rfl 3 rfl rfl (Nat.le_of_ble_eq_true rfl) rfl ?_
        refine r_goto (tgt := 32) C dX0_weigh_155 rfl ?_
        refine r_sub [1, 2, 3, 0] rfl ?_
        exact ih _ _ _ h Z C hE
      · rw [if_neg c14] at h
        refine r_aload_n (pc' := 49) C dX0_weigh_48 rfl 0 rfl ?_
        refine r_getR (pc' := 52) C flX0_25 sh_5 rfl dX0_weigh_49 rfl ?_
        refine r_iload_n (pc' := 53) C dX0_weigh_52 rfl 3 rfl ?_
        refine r_iconst (pc' := 54) C dX0_weigh_53 rfl kc_0 ?_
        obtain ⟨q49, h⟩ := ck h
        obtain ⟨σ50, e51, h⟩ := bs h
        refine r_iast (pc' := 55) (σ1 := σ50) C sh_15 (vin q49) dX0_weigh_54 rfl e51 ?_
        refine r_goto (tgt := 152) C dX0_weigh_55 rfl ?_
        refine r_iinc (pc' := 155) (v := v3 + 1) (lv2 := [(3, .int (v3 + 1)), (0, .ref 5), (1, .ref k1), (2, .ref k2)]) C dX0_weigh_152 rfl 3 rfl rfl (Nat.le_of_ble_eq_true rfl) rfl ?_
        refine r_goto (tgt := 32) C dX0_weigh_155 rfl ?_
        refine r_sub [1, 2, 3, 0] rfl ?_
        exact ih _ _ _ h Z C hE
def X0_weigh (N : Nat) (k1 : Nat) (k2 : Nat)  (σ : Sg) : Option (Sg) :=
  (X0_windAt N (gi σ k1 8) σ).bind fun r1 => (if inb 1 8 = true then bnS (wi σ 18 (1 : Int32).toNatClampNeg r1) fun σ4 => (J9_floorMod_7cf53 N (gi σ4 k1 8) 7 σ4).bind fun r6 => (if inb 7 8 = true then bnS (wi σ4 18 (7 : Int32).toNatClampNeg r6) fun σ9 => X0_weigh_l32 N k1 k2 N 0 σ9 else none) else none)
set_option maxRecDepth 100000 in
set_option maxHeartbeats 4000000 in
theorem X0_weigh_ok {E : Ev} {k1 : Nat} (hk1 : StAt SH0 k1) {k2 : Nat} (hk2 : RuAt SH0 k2) {N : Nat}  {σ : Sg} {r : Sg} (h : X0_weigh N k1 k2  σ = some r) : Cm E (2) yX0_weigh cX0_weigh 4 none [.ref 5, .ref k1, .ref k2] SH0 SH0 σ r (none) 0 0 := by
  refine Cm.intro (by decide +kernel) (Nat.le_of_ble_eq_true rfl) (fun _ h => by obtain ⟨_, _, _, _, _, _, h⟩ := h; exact h) (fun Z C hE => ?_)
  show Wm E Z 0 0 SH0 σ 0 [(0, .ref 5), (1, .ref k1), (2, .ref k2)] []
  unfold X0_weigh at h
  refine r_aload_n (pc' := 1) C dX0_weigh_0 rfl 0 rfl ?_
  refine r_getR (pc' := 4) C flX0_38 sh_5 rfl dX0_weigh_1 rfl ?_
  refine r_iconst (pc' := 5) C dX0_weigh_4 rfl kc_1 ?_
  refine r_aload_n (pc' := 6) C dX0_weigh_5 rfl 0 rfl ?_
  refine r_aload_n (pc' := 7) C dX0_weigh_6 rfl 1 rfl ?_
  refine r_getI (pc' := 10) C flX0_74 (st0 hk1) rfl dX0_weigh_7 rfl ?_
  obtain ⟨r1, e2, h⟩ := bd h
  refine r_cV1 (pc' := 13) C (X0_windAt_ok  e2) mlX0_77 ceX0_windAt cvX0_windAt sh_5 rfl rfl rfl (Nat.le_of_ble_eq_true rfl) rfl (Nat.le_of_ble_eq_true rfl) dX0_weigh_10 rfl (kk := ?_)
  obtain ⟨q3, h⟩ := ck h
  obtain ⟨σ4, e5, h⟩ := bs h
  refine r_iast (pc' := 14) (σ1 := σ4) C sh_18 (vin q3) dX0_weigh_13 rfl e5 ?_
  refine r_aload_n (pc' := 15) C dX0_weigh_14 rfl 0 rfl ?_
  refine r_getR (pc' := 18) C flX0_38 sh_5 rfl dX0_weigh_15 rfl ?_
  refine r_bipush (pc' := 20) C dX0_weigh_18 rfl kb_7 ?_
  refine r_aload_n (pc' := 21) C dX0_weigh_20 rfl 1 rfl ?_
  refine r_getI (pc' := 24) C flX0_74 (st0 hk1) rfl dX0_weigh_21 rfl ?_
  refine r_bipush (pc' := 26) C dX0_weigh_24 rfl kb_7 ?_
  obtain ⟨r6, e7, h⟩ := bd h
  refine r_cS1 (pc' := 29) C (J9_floorMod_7cf53_ok  e7) mlX0_71 ceJ9_floorMod_7cf53 csJ9_floorMod_7cf53 rfl (Nat.le_of_ble_eq_true rfl) rfl (Nat.le_of_ble_eq_true rfl) dX0_weigh_26 rfl (kk := ?_)
  obtain ⟨q8, h⟩ := ck h
  obtain ⟨σ9, e10, h⟩ := bs h
  refine r_iast (pc' := 30) (σ1 := σ9) C sh_18 (vin q8) dX0_weigh_29 rfl e10 ?_
  refine r_iconst (pc' := 31) C dX0_weigh_30 rfl kc_0 ?_
  refine r_istore_n (pc' := 32) (lv2 := [(3, .int 0), (0, .ref 5), (1, .ref k1), (2, .ref k2)]) C dX0_weigh_31 rfl rfl (Nat.le_of_ble_eq_true rfl) rfl ?_
  refine r_sub [1, 2, 3, 0] rfl ?_
  exact X0_weigh_l32_ok hk1 hk2 N _ _ _ h Z C hE

/-! BorrowedWeight$Land.everything()I -/
def X0_everything (N : Nat)   (σ : Sg) : Option (Int32) :=
  some ((1 <<< ((gi σ 5 1) &&& 31)) - 1)
set_option maxRecDepth 100000 in
set_option maxHeartbeats 4000000 in
theorem X0_everything_ok {E : Ev}  {N : Nat}  {σ : Sg} {r : Int32} (h : X0_everything N   σ = some r) : Cm E (0) yX0_everything cX0_everything 1 (some .int) [.ref 5] SH0 SH0 σ σ (some (.int r)) 0 0 := by
  refine Cm.intro (by decide +kernel) (Nat.le_of_ble_eq_true rfl) (fun _ h => by obtain ⟨_, _, _, _, _, _, h⟩ := h; exact h) (fun Z C hE => ?_)
  show Wm E Z 0 0 SH0 σ 0 [(0, .ref 5)] []
  unfold X0_everything at h
  refine r_iconst (pc' := 1) C dX0_everything_0 rfl kc_1 ?_
  refine r_aload_n (pc' := 2) C dX0_everything_1 rfl 0 rfl ?_
  refine r_getI (pc' := 5) C flX0_41 sh_5 rfl dX0_everything_2 rfl ?_
  refine r_ishl (pc' := 6) C dX0_everything_5 rfl ?_
  refine r_iconst (pc' := 7) C dX0_everything_6 rfl kc_1 ?_
  refine r_isub (pc' := 8) C dX0_everything_7 rfl ?_
  have h := Option.some.inj h
  subst h
  exact r_ret C rfl dX0_everything_8 hE

/-! BorrowedWeight$Land.present(LBorrowedWeight$State;)I -/
def X0_present (N : Nat) (k1 : Nat)  (σ : Sg) : Option (Int32) :=
  (X0_everything N σ).bind fun r1 => (some (r1 &&& ((gi σ k1 4) ^^^ (-1))))
set_option maxRecDepth 100000 in
set_option maxHeartbeats 4000000 in
theorem X0_present_ok {E : Ev} {k1 : Nat} (hk1 : StAt SH0 k1) {N : Nat}  {σ : Sg} {r : Int32} (h : X0_present N k1  σ = some r) : Cm E (1) yX0_present cX0_present 2 (some .int) [.ref 5, .ref k1] SH0 SH0 σ σ (some (.int r)) 0 0 := by
  refine Cm.intro (by decide +kernel) (Nat.le_of_ble_eq_true rfl) (fun _ h => by obtain ⟨_, _, _, _, _, _, h⟩ := h; exact h) (fun Z C hE => ?_)
  show Wm E Z 0 0 SH0 σ 0 [(0, .ref 5), (1, .ref k1)] []
  unfold X0_present at h
  refine r_aload_n (pc' := 1) C dX0_present_0 rfl 0 rfl ?_
  obtain ⟨r1, e2, h⟩ := bd h
  refine r_cV1 (pc' := 4) C (X0_everything_ok  e2) mlX0_44 ceX0_everything cvX0_everything sh_5 rfl rfl rfl (Nat.le_of_ble_eq_true rfl) rfl (Nat.le_of_ble_eq_true rfl) dX0_present_1 rfl (kk := ?_)
  refine r_aload_n (pc' := 5) C dX0_present_4 rfl 1 rfl ?_
  refine r_getI (pc' := 8) C flX0_48 (st0 hk1) rfl dX0_present_5 rfl ?_
  refine r_iconst (pc' := 9) C dX0_present_8 rfl kc_m1 ?_
  refine r_ixor (pc' := 10) C dX0_present_9 rfl ?_
  refine r_iand (pc' := 11) C dX0_present_10 rfl ?_
  have h := Option.some.inj h
  subst h
  exact r_ret C rfl dX0_present_11 hE

/-! BorrowedWeight$State.bundleOf(I)I -/
def X5_bundleOf_l26 (N : Nat) (k0 : Nat) (k61 : Int32 → Int32 → Int32 → Option (Int32)) (σ : Sg) : Nat → Int32 → Int32 → Int32 → Int32 → Int32 → Option (Int32)
  | 0, _, _, _, _, _ => none
  | n + 1, v2, v3, v4, v5, v6 =>
    if 8 ≤ v6 then (k61 v2 v4 v5) else (if ((v3 >>> (v6 &&& 31)) &&& 1) = 1 then (if inb v6 8 = true then X5_bundleOf_l26 N k0 k61 σ n v2 v3 v4 (v5 ||| (gi σ (k0 + 4) v6.toNatClampNeg)) (v6 + 1) else none) else (X5_bundleOf_l26 N k0 k61 σ n v2 v3 v4 v5 (v6 + 1)))
set_option maxRecDepth 100000 in
set_option maxHeartbeats 4000000 in
theorem X5_bundleOf_l26_ok {E : Ev} {k0 : Nat} (hk0 : StAt SH0 k0) {N : Nat} {k61 : Int32 → Int32 → Int32 → Option (Int32)} {σ : Sg} (hk61 : ∀ (v2 : Int32) (v4 : Int32) (v5 : Int32) (r : Int32), k61 v2 v4 v5 = some r → Gp E RX5 cX5_bundleOf (some .int) 7 (0) SH0 σ (some (.int r)) σ 61 [(0, .ref k0), (2, .int v2), (4, .int v4), (5, .int v5)] []) : ∀ (n : Nat) (v2 : Int32) (v3 : Int32) (v4 : Int32) (v5 : Int32) (v6 : Int32) (r : Int32), X5_bundleOf_l26 N k0 k61 σ n v2 v3 v4 v5 v6 = some r → Gp E RX5 cX5_bundleOf (some .int) 7 (0) SH0 σ (some (.int r)) σ 26 [(0, .ref k0), (2, .int v2), (3, .int v3), (4, .int v4), (5, .int v5), (6, .int v6)] [] := by
  intro n
  induction n with
  | zero => intro v2 v3 v4 v5 v6 r h; cases h
  | succ n ih =>
    intro v2 v3 v4 v5 v6 r h Z C hE
    unfold X5_bundleOf_l26 at h
    refine r_iload (pc' := 28) C dX5_bundleOf_26 rfl 5 rfl ?_
    refine r_bipush (pc' := 30) C dX5_bundleOf_28 rfl kb_8 ?_
    refine r_icmp_ge (tgt := 61) (pc' := 33) C dX5_bundleOf_30 rfl rfl (fun c3 => ?_) (fun c3 => ?_)
    · rw [if_pos c3] at h
      refine r_sub [0, 1, 3, 4] rfl ?_
      exact hk61 _ _ _ _ h Z C hE
    · rw [if_neg c3] at h
      refine r_iload_n (pc' := 34) C dX5_bundleOf_33 rfl 2 rfl ?_
      refine r_iload (pc' := 36) C dX5_bundleOf_34 rfl 5 rfl ?_
      refine r_ishr (pc' := 37) C dX5_bundleOf_36 rfl ?_
      refine r_iconst (pc' := 38) C dX5_bundleOf_37 rfl kc_1 ?_
      refine r_iand (pc' := 39) C dX5_bundleOf_38 rfl ?_
      refine r_iconst (pc' := 40) C dX5_bundleOf_39 rfl kc_1 ?_
      refine r_icmp_ne (tgt := 55) (pc' := 43) C dX5_bundleOf_40 rfl rfl (fun c4 => ?_) (fun c4 => ?_)
      · rw [if_neg c4] at h
        refine r_iinc (pc' := 58) (v := v6 + 1) (lv2 := [(6, .int (v6 + 1)), (0, .ref k0), (2, .int v2), (3, .int v3), (4, .int v4), (5, .int v5)]) C dX5_bundleOf_55 rfl 5 rfl rfl (Nat.le_of_ble_eq_true rfl) rfl ?_
        refine r_goto (tgt := 26) C dX5_bundleOf_58 rfl ?_
        refine r_sub [1, 2, 3, 4, 5, 0] rfl ?_
        exact ih _ _ _ _ _ _ h Z C hE
      · rw [if_pos c4] at h
        refine r_iload (pc' := 45) C dX5_bundleOf_43 rfl 4 rfl ?_
        refine r_aload_n (pc' := 46) C dX5_bundleOf_45 rfl 0 rfl ?_
        refine r_getR (pc' := 49) C flX5_21 (st0 hk0) rfl dX5_bundleOf_46 rfl ?_
        refine r_iload (pc' := 51) C dX5_bundleOf_49 rfl 5 rfl ?_
        obtain ⟨q5, h⟩ := ck h
        refine r_iald (pc' := 52) C (st4 hk0) (vin q5) dX5_bundleOf_51 rfl ?_
        refine r_ior (pc' := 53) C dX5_bundleOf_52 rfl ?_
        refine r_istore (pc' := 55) (lv2 := [(5, .int (v5 ||| (gi σ (k0 + 4) v6.toNatClampNeg))), (0, .ref k0), (2, .int v2), (3, .int v3), (4, .int v4), (6, .int v6)]) C dX5_bundleOf_53 rfl (Nat.le_of_ble_eq_true rfl) rfl ?_
        refine r_iinc (pc' := 58) (v := v6 + 1) (lv2 := [(6, .int (v6 + 1)), (5, .int (v5 ||| (gi σ (k0 + 4) v6.toNatClampNeg))), (0, .ref k0), (2, .int v2), (3, .int v3), (4, .int v4)]) C dX5_bundleOf_55 rfl 5 rfl rfl (Nat.le_of_ble_eq_true rfl) rfl ?_
        refine r_goto (tgt := 26) C dX5_bundleOf_58 rfl ?_
        refine r_sub [2, 3, 4, 5, 1, 0] rfl ?_
        exact ih _ _ _ _ _ _ h Z C hE
def X5_bundleOf_j61 (N : Nat) (k0 : Nat) (kr : Int32 → Int32 → Int32 → Option (Int32)) (v2 : Int32) (v4 : Int32) (v5 : Int32) (σ : Sg) : Option (Int32) :=
  kr (v2 ||| (v5 &&& (v2 ^^^ (-1)))) (v5 &&& (v2 ^^^ (-1))) (v4 + 1)
set_option maxRecDepth 100000 in
set_option maxHeartbeats 4000000 in
theorem X5_bundleOf_j61_ok {E : Ev} {k0 : Nat} (hk0 : StAt SH0 k0) {N : Nat} {kr : Int32 → Int32 → Int32 → Option (Int32)} {σ : Sg}  (hkr : ∀ (v2 : Int32) (v3 : Int32) (v4 : Int32) (r : Int32), kr v2 v3 v4 = some r → Gp E RX5 cX5_bundleOf (some .int) 7 (0) SH0 σ (some (.int r)) σ 9 [(0, .ref k0), (2, .int v2), (3, .int v3), (4, .int v4)] []) {v2 : Int32} {v4 : Int32} {v5 : Int32} {r : Int32} (h : X5_bundleOf_j61 N k0 kr v2 v4 v5 σ = some r) : Gp E RX5 cX5_bundleOf (some .int) 7 (0) SH0 σ (some (.int r)) σ 61 [(0, .ref k0), (2, .int v2), (4, .int v4), (5, .int v5)] [] := by
  intro Z C hE
  unfold X5_bundleOf_j61 at h
  refine r_iload (pc' := 63) C dX5_bundleOf_61 rfl 3 rfl ?_
  refine r_iload_n (pc' := 64) C dX5_bundleOf_63 rfl 1 rfl ?_
  refine r_iconst (pc' := 65) C dX5_bundleOf_64 rfl kc_m1 ?_
  refine r_ixor (pc' := 66) C dX5_bundleOf_65 rfl ?_
  refine r_iand (pc' := 67) C dX5_bundleOf_66 rfl ?_
  refine r_istore_n (pc' := 68) (lv2 := [(3, .int (v5 &&& (v2 ^^^ (-1)))), (0, .ref k0), (2, .int v2), (4, .int v4), (5, .int v5)]) C dX5_bundleOf_67 rfl rfl (Nat.le_of_ble_eq_true rfl) rfl ?_
  refine r_iload_n (pc' := 69) C dX5_bundleOf_68 rfl 2 rfl ?_
  refine r_iload_n (pc' := 70) C dX5_bundleOf_69 rfl 0 rfl ?_
  refine r_ior (pc' := 71) C dX5_bundleOf_70 rfl ?_
  refine r_istore_n (pc' := 72) (lv2 := [(2, .int (v2 ||| (v5 &&& (v2 ^^^ (-1))))), (3, .int (v5 &&& (v2 ^^^ (-1)))), (0, .ref k0), (4, .int v4), (5, .int v5)]) C dX5_bundleOf_71 rfl rfl (Nat.le_of_ble_eq_true rfl) rfl ?_
  refine r_iinc (pc' := 75) (v := v4 + 1) (lv2 := [(4, .int (v4 + 1)), (2, .int (v2 ||| (v5 &&& (v2 ^^^ (-1))))), (3, .int (v5 &&& (v2 ^^^ (-1)))), (0, .ref k0), (5, .int v5)]) C dX5_bundleOf_72 rfl 3 rfl rfl (Nat.le_of_ble_eq_true rfl) rfl ?_
  refine r_goto (tgt := 9) C dX5_bundleOf_75 rfl ?_
  refine r_sub [3, 1, 2, 0] rfl ?_
  exact hkr _ _ _ _ h Z C hE
def X5_bundleOf_l9 (N : Nat) (k0 : Nat)  (σ : Sg) : Nat → Int32 → Int32 → Int32 → Option (Int32)
  | 0, _, _, _ => none
  | n + 1, v2, v3, v4 =>
    if 8 ≤ v4 then (some v2) else (if v3 = 0 then (some v2) else (X5_bundleOf_l26 N k0 (fun v2 v4 v5 => X5_bundleOf_j61 N k0 (fun v2 v3 v4 => X5_bundleOf_l9 N k0 σ n v2 v3 v4) v2 v4 v5 σ) σ N v2 v3 v4 0 0))
set_option maxRecDepth 100000 in
set_option maxHeartbeats 4000000 in
theorem X5_bundleOf_l9_ok {E : Ev} {k0 : Nat} (hk0 : StAt SH0 k0) {N : Nat}  {σ : Sg}  : ∀ (n : Nat) (v2 : Int32) (v3 : Int32) (v4 : Int32) (r : Int32), X5_bundleOf_l9 N k0 σ n v2 v3 v4 = some r → Gp E RX5 cX5_bundleOf (some .int) 7 (0) SH0 σ (some (.int r)) σ 9 [(0, .ref k0), (2, .int v2), (3, .int v3), (4, .int v4)] [] := by
  intro n
  induction n with
  | zero => intro v2 v3 v4 r h; cases h
  | succ n ih =>
    intro v2 v3 v4 r h Z C hE
    unfold X5_bundleOf_l9 at h
    refine r_iload (pc' := 11) C dX5_bundleOf_9 rfl 3 rfl ?_
    refine r_bipush (pc' := 13) C dX5_bundleOf_11 rfl kb_8 ?_
    refine r_icmp_ge (tgt := 78) (pc' := 16) C dX5_bundleOf_13 rfl rfl (fun c1 => ?_) (fun c1 => ?_)
    · rw [if_pos c1] at h
      refine r_iload_n (pc' := 79) C dX5_bundleOf_78 rfl 1 rfl ?_
      have h := Option.some.inj h
      subst h
      exact r_ret C rfl dX5_bundleOf_79 hE
    · rw [if_neg c1] at h
      refine r_iload_n (pc' := 17) C dX5_bundleOf_16 rfl 2 rfl ?_
      refine r_if_eq (tgt := 78) (pc' := 20) C dX5_bundleOf_17 rfl rfl (fun c2 => ?_) (fun c2 => ?_)
      · rw [if_pos c2] at h
        refine r_iload_n (pc' := 79) C dX5_bundleOf_78 rfl 1 rfl ?_
        have h := Option.some.inj h
        subst h
        exact r_ret C rfl dX5_bundleOf_79 hE
      · rw [if_neg c2] at h
        refine r_iconst (pc' := 21) C dX5_bundleOf_20 rfl kc_0 ?_
        refine r_istore (pc' := 23) (lv2 := [(5, .int 0), (0, .ref k0), (2, .int v2), (3, .int v3), (4, .int v4)]) C dX5_bundleOf_21 rfl (Nat.le_of_ble_eq_true rfl) rfl ?_
        refine r_iconst (pc' := 24) C dX5_bundleOf_23 rfl kc_0 ?_
        refine r_istore (pc' := 26) (lv2 := [(6, .int 0), (5, .int 0), (0, .ref k0), (2, .int v2), (3, .int v3), (4, .int v4)]) C dX5_bundleOf_24 rfl (Nat.le_of_ble_eq_true rfl) rfl ?_
        refine r_sub [2, 3, 4, 5, 1, 0] rfl ?_
        exact X5_bundleOf_l26_ok hk0 (fun _ _ _ _ h Z C hE => by exact X5_bundleOf_j61_ok hk0 ih h Z C hE) N _ _ _ _ _ _ h Z C hE
def X5_bundleOf (N : Nat) (k0 : Nat) (v1 : Int32) (σ : Sg) : Option (Int32) :=
  X5_bundleOf_l9 N k0 σ N (1 <<< (v1 &&& 31)) (1 <<< (v1 &&& 31)) 0
set_option maxRecDepth 100000 in
set_option maxHeartbeats 4000000 in
theorem X5_bundleOf_ok {E : Ev} {k0 : Nat} (hk0 : StAt SH0 k0) {N : Nat} {v1 : Int32} {σ : Sg} {r : Int32} (h : X5_bundleOf N k0 v1 σ = some r) : Cm E (0) yX5_bundleOf cX5_bundleOf 7 (some .int) [.ref k0, .int v1] SH0 SH0 σ σ (some (.int r)) 0 0 := by
  refine Cm.intro (by decide +kernel) (Nat.le_of_ble_eq_true rfl) (fun _ h => by obtain ⟨_, _, _, _, _, _, h⟩ := h; exact h) (fun Z C hE => ?_)
  show Wm E Z 0 0 SH0 σ 0 [(0, .ref k0), (1, .int v1)] []
  unfold X5_bundleOf at h
  refine r_iconst (pc' := 1) C dX5_bundleOf_0 rfl kc_1 ?_
  refine r_iload_n (pc' := 2) C dX5_bundleOf_1 rfl 1 rfl ?_
  refine r_ishl (pc' := 3) C dX5_bundleOf_2 rfl ?_
  refine r_istore_n (pc' := 4) (lv2 := [(2, .int (1 <<< (v1 &&& 31))), (0, .ref k0), (1, .int v1)]) C dX5_bundleOf_3 rfl rfl (Nat.le_of_ble_eq_true rfl) rfl ?_
  refine r_iload_n (pc' := 5) C dX5_bundleOf_4 rfl 0 rfl ?_
  refine r_istore_n (pc' := 6) (lv2 := [(3, .int (1 <<< (v1 &&& 31))), (2, .int (1 <<< (v1 &&& 31))), (0, .ref k0), (1, .int v1)]) C dX5_bundleOf_5 rfl rfl (Nat.le_of_ble_eq_true rfl) rfl ?_
  refine r_iconst (pc' := 7) C dX5_bundleOf_6 rfl kc_0 ?_
  refine r_istore (pc' := 9) (lv2 := [(4, .int 0), (3, .int (1 <<< (v1 &&& 31))), (2, .int (1 <<< (v1 &&& 31))), (0, .ref k0), (1, .int v1)]) C dX5_bundleOf_7 rfl (Nat.le_of_ble_eq_true rfl) rfl ?_
  refine r_sub [3, 2, 1, 0] rfl ?_
  exact X5_bundleOf_l9_ok hk0 N _ _ _ _ h Z C hE

/-! BorrowedWeight$Land.part(LBorrowedWeight$State;)V -/
def X0_part_l13 (N : Nat) (k1 : Nat)   : Nat → Int32 → Int32 → Sg → Option (Sg)
  | 0, _, _, _ => none
  | n + 1, v2, v3, σ =>
    if (gi σ 5 1) ≤ v3 then (some σ) else (if ((v2 >>> (v3 &&& 31)) &&& 1) = 1 then (if 8 ≤ (gi σ 5 6) then (X0_part_l13 N k1 n v2 (v3 + 1) σ) else ((X5_bundleOf N k1 v3 σ).bind fun r8 => (if inb (gi σ 5 6) 8 = true then bnS (wi σ 16 (gi σ 5 6).toNatClampNeg r8) fun σ11 => bnS (wi σ11 5 6 ((gi σ11 5 6) + 1)) fun σ13 => X0_part_l13 N k1 n (v2 &&& (r8 ^^^ (-1))) (v3 + 1) σ13 else none))) else (X0_part_l13 N k1 n v2 (v3 + 1) σ))
set_option maxRecDepth 100000 in
set_option maxHeartbeats 4000000 in
theorem X0_part_l13_ok {E : Ev} {k1 : Nat} (hk1 : StAt SH0 k1) {N : Nat}    : ∀ (n : Nat) (v2 : Int32) (v3 : Int32) (σ : Sg) (r : Sg), X0_part_l13 N k1 n v2 v3 σ = some r → Gp E RX0 cX0_part none 5 (2) SH0 r (none) σ 13 [(0, .ref 5), (1, .ref k1), (2, .int v2), (3, .int v3)] [] := by
  intro n
  induction n with
  | zero => intro v2 v3 σ r h; cases h
  | succ n ih =>
    intro v2 v3 σ r h Z C hE
    unfold X0_part_l13 at h
    refine r_iload_n (pc' := 14) C dX0_part_13 rfl 3 rfl ?_
    refine r_aload_n (pc' := 15) C dX0_part_14 rfl 0 rfl ?_
    refine r_getI (pc' := 18) C flX0_41 sh_5 rfl dX0_part_15 rfl ?_
    refine r_icmp_ge (tgt := 80) (pc' := 21) C dX0_part_18 rfl rfl (fun c5 => ?_) (fun c5 => ?_)
    · rw [if_pos c5] at h
      have h := Option.some.inj h
      subst h
      exact r_vret C dX0_part_80 hE
    · rw [if_neg c5] at h
      refine r_iload_n (pc' := 22) C dX0_part_21 rfl 2 rfl ?_
      refine r_iload_n (pc' := 23) C dX0_part_22 rfl 3 rfl ?_
      refine r_ishr (pc' := 24) C dX0_part_23 rfl ?_
      refine r_iconst (pc' := 25) C dX0_part_24 rfl kc_1 ?_
      refine r_iand (pc' := 26) C dX0_part_25 rfl ?_
      refine r_iconst (pc' := 27) C dX0_part_26 rfl kc_1 ?_
      refine r_icmp_ne (tgt := 74) (pc' := 30) C dX0_part_27 rfl rfl (fun c6 => ?_) (fun c6 => ?_)
      · rw [if_neg c6] at h
        refine r_iinc (pc' := 77) (v := v3 + 1) (lv2 := [(3, .int (v3 + 1)), (0, .ref 5), (1, .ref k1), (2, .int v2)]) C dX0_part_74 rfl 3 rfl rfl (Nat.le_of_ble_eq_true rfl) rfl ?_
        refine r_goto (tgt := 13) C dX0_part_77 rfl ?_
        refine r_sub [1, 2, 3, 0] rfl ?_
        exact ih _ _ _ _ h Z C hE
      · rw [if_pos c6] at h
        refine r_aload_n (pc' := 31) C dX0_part_30 rfl 0 rfl ?_
        refine r_getI (pc' := 34) C flX0_105 sh_5 rfl dX0_part_31 rfl ?_
        refine r_bipush (pc' := 36) C dX0_part_34 rfl kb_8 ?_
        refine r_icmp_ge (tgt := 74) (pc' := 39) C dX0_part_36 rfl rfl (fun c7 => ?_) (fun c7 => ?_)
        · rw [if_pos c7] at h
          refine r_iinc (pc' := 77) (v := v3 + 1) (lv2 := [(3, .int (v3 + 1)), (0, .ref 5), (1, .ref k1), (2, .int v2)]) C dX0_part_74 rfl 3 rfl rfl (Nat.le_of_ble_eq_true rfl) rfl ?_
          refine r_goto (tgt := 13) C dX0_part_77 rfl ?_
          refine r_sub [1, 2, 3, 0] rfl ?_
          exact ih _ _ _ _ h Z C hE
        · rw [if_neg c7] at h
          refine r_aload_n (pc' := 40) C dX0_part_39 rfl 1 rfl ?_
          refine r_iload_n (pc' := 41) C dX0_part_40 rfl 3 rfl ?_
          obtain ⟨r8, e9, h⟩ := bd h
          refine r_cV1 (pc' := 44) C (X5_bundleOf_ok hk1 e9) mlX0_112 ceX5_bundleOf cvX5_bundleOf (st0 hk1) rfl rfl rfl (Nat.le_of_ble_eq_true rfl) rfl (Nat.le_of_ble_eq_true rfl) dX0_part_41 rfl (kk := ?_)
          refine r_istore (pc' := 46) (lv2 := [(4, .int r8), (0, .ref 5), (1, .ref k1), (2, .int v2), (3, .int v3)]) C dX0_part_44 rfl (Nat.le_of_ble_eq_true rfl) rfl ?_
          refine r_iload_n (pc' := 47) C dX0_part_46 rfl 3 rfl ?_
          refine r_iload (pc' := 49) C dX0_part_47 rfl 0 rfl ?_
          refine r_iconst (pc' := 50) C dX0_part_49 rfl kc_m1 ?_
          refine r_ixor (pc' := 51) C dX0_part_50 rfl ?_
          refine r_iand (pc' := 52) C dX0_part_51 rfl ?_
          refine r_istore_n (pc' := 53) (lv2 := [(2, .int (v2 &&& (r8 ^^^ (-1)))), (4, .int r8), (0, .ref 5), (1, .ref k1), (3, .int v3)]) C dX0_part_52 rfl rfl (Nat.le_of_ble_eq_true rfl) rfl ?_
          refine r_aload_n (pc' := 54) C dX0_part_53 rfl 2 rfl ?_
          refine r_getR (pc' := 57) C flX0_28 sh_5 rfl dX0_part_54 rfl ?_
          refine r_aload_n (pc' := 58) C dX0_part_57 rfl 2 rfl ?_
          refine r_getI (pc' := 61) C flX0_105 sh_5 rfl dX0_part_58 rfl ?_
          refine r_iload (pc' := 63) C dX0_part_61 rfl 1 rfl ?_
          obtain ⟨q10, h⟩ := ck h
          obtain ⟨σ11, e12, h⟩ := bs h
          refine r_iast (pc' := 64) (σ1 := σ11) C sh_16 (vin q10) dX0_part_63 rfl e12 ?_
          refine r_aload_n (pc' := 65) C dX0_part_64 rfl 2 rfl ?_
          refine r_dup (pc' := 66) C dX0_part_65 rfl rfl ?_
          refine r_getI (pc' := 69) C flX0_105 sh_5 rfl dX0_part_66 rfl ?_
          refine r_iconst (pc' := 70) C dX0_part_69 rfl kc_1 ?_
          refine r_iadd (pc' := 71) C dX0_part_70 rfl ?_
          obtain ⟨σ13, e14, h⟩ := bs h
          refine r_putI (pc' := 74) (σ1 := σ13) C fpX0_105 sh_5 rfl rfl rfl dX0_part_71 rfl e14 ?_
          refine r_iinc (pc' := 77) (v := v3 + 1) (lv2 := [(3, .int (v3 + 1)), (2, .int (v2 &&& (r8 ^^^ (-1)))), (4, .int r8), (0, .ref 5), (1, .ref k1)]) C dX0_part_74 rfl 4 rfl rfl (Nat.le_of_ble_eq_true rfl) rfl ?_
          refine r_goto (tgt := 13) C dX0_part_77 rfl ?_
          refine r_sub [3, 4, 1, 0] rfl ?_
          exact ih _ _ _ _ h Z C hE
def X0_part (N : Nat) (k1 : Nat)  (σ : Sg) : Option (Sg) :=
  bnS (wi σ 5 6 0) fun σ1 => (X0_present N k1 σ1).bind fun r3 => (X0_part_l13 N k1 N r3 0 σ1)
set_option maxRecDepth 100000 in
set_option maxHeartbeats 4000000 in
theorem X0_part_ok {E : Ev} {k1 : Nat} (hk1 : StAt SH0 k1) {N : Nat}  {σ : Sg} {r : Sg} (h : X0_part N k1  σ = some r) : Cm E (2) yX0_part cX0_part 5 none [.ref 5, .ref k1] SH0 SH0 σ r (none) 0 0 := by
  refine Cm.intro (by decide +kernel) (Nat.le_of_ble_eq_true rfl) (fun _ h => by obtain ⟨_, _, _, _, _, _, h⟩ := h; exact h) (fun Z C hE => ?_)
  show Wm E Z 0 0 SH0 σ 0 [(0, .ref 5), (1, .ref k1)] []
  unfold X0_part at h
  refine r_aload_n (pc' := 1) C dX0_part_0 rfl 0 rfl ?_
  refine r_iconst (pc' := 2) C dX0_part_1 rfl kc_0 ?_
  obtain ⟨σ1, e2, h⟩ := bs h
  refine r_putI (pc' := 5) (σ1 := σ1) C fpX0_105 sh_5 rfl rfl rfl dX0_part_2 rfl e2 ?_
  refine r_aload_n (pc' := 6) C dX0_part_5 rfl 0 rfl ?_
  refine r_aload_n (pc' := 7) C dX0_part_6 rfl 1 rfl ?_
  obtain ⟨r3, e4, h⟩ := bd h
  refine r_cV1 (pc' := 10) C (X0_present_ok hk1 e4) mlX0_108 ceX0_present cvX0_present sh_5 rfl rfl rfl (Nat.le_of_ble_eq_true rfl) rfl (Nat.le_of_ble_eq_true rfl) dX0_part_7 rfl (kk := ?_)
  refine r_istore_n (pc' := 11) (lv2 := [(2, .int r3), (0, .ref 5), (1, .ref k1)]) C dX0_part_10 rfl rfl (Nat.le_of_ble_eq_true rfl) rfl ?_
  refine r_iconst (pc' := 12) C dX0_part_11 rfl kc_0 ?_
  refine r_istore_n (pc' := 13) (lv2 := [(3, .int 0), (2, .int r3), (0, .ref 5), (1, .ref k1)]) C dX0_part_12 rfl rfl (Nat.le_of_ble_eq_true rfl) rfl ?_
  refine r_sub [2, 3, 1, 0] rfl ?_
  exact X0_part_l13_ok hk1 N _ _ _ _ h Z C hE

/-! BorrowedWeight$State.stonesOf(I)I -/
def X5_stonesOf_l4 (N : Nat) (k0 : Nat)  (σ : Sg) : Nat → Int32 → Int32 → Int32 → Option (Int32)
  | 0, _, _, _ => none
  | n + 1, v1, v2, v3 =>
    if 8 ≤ v3 then (some v2) else (if ((v1 >>> (v3 &&& 31)) &&& 1) = 1 then (if inb v3 8 = true then X5_stonesOf_l4 N k0 σ n v1 (v2 + (gi σ (k0 + 1) v3.toNatClampNeg)) (v3 + 1) else none) else (X5_stonesOf_l4 N k0 σ n v1 v2 (v3 + 1)))
set_option maxRecDepth 100000 in
set_option maxHeartbeats 4000000 in
theorem X5_stonesOf_l4_ok {E : Ev} {k0 : Nat} (hk0 : StAt SH0 k0) {N : Nat}  {σ : Sg}  : ∀ (n : Nat) (v1 : Int32) (v2 : Int32) (v3 : Int32) (r : Int32), X5_stonesOf_l4 N k0 σ n v1 v2 v3 = some r → Gp E RX5 cX5_stonesOf (some .int) 4 (0) SH0 σ (some (.int r)) σ 4 [(0, .ref k0), (1, .int v1), (2, .int v2), (3, .int v3)] [] := by
  intro n
  induction n with
  | zero => intro v1 v2 v3 r h; cases h
  | succ n ih =>
    intro v1 v2 v3 r h Z C hE
    unfold X5_stonesOf_l4 at h
    refine r_iload_n (pc' := 5) C dX5_stonesOf_4 rfl 3 rfl ?_
    refine r_bipush (pc' := 7) C dX5_stonesOf_5 rfl kb_8 ?_
    refine r_icmp_ge (tgt := 34) (pc' := 10) C dX5_stonesOf_7 rfl rfl (fun c1 => ?_) (fun c1 => ?_)
    · rw [if_pos c1] at h
      refine r_iload_n (pc' := 35) C dX5_stonesOf_34 rfl 2 rfl ?_
      have h := Option.some.inj h
      subst h
      exact r_ret C rfl dX5_stonesOf_35 hE
    · rw [if_neg c1] at h
      refine r_iload_n (pc' := 11) C dX5_stonesOf_10 rfl 1 rfl ?_
      refine r_iload_n (pc' := 12) C dX5_stonesOf_11 rfl 3 rfl ?_
      refine r_ishr (pc' := 13) C dX5_stonesOf_12 rfl ?_
      refine r_iconst (pc' := 14) C dX5_stonesOf_13 rfl kc_1 ?_
      refine r_iand (pc' := 15) C dX5_stonesOf_14 rfl ?_
      refine r_iconst (pc' := 16) C dX5_stonesOf_15 rfl kc_1 ?_
      refine r_icmp_ne (tgt := 28) (pc' := 19) C dX5_stonesOf_16 rfl rfl (fun c2 => ?_) (fun c2 => ?_)
      · rw [if_neg c2] at h
        refine r_iinc (pc' := 31) (v := v3 + 1) (lv2 := [(3, .int (v3 + 1)), (0, .ref k0), (1, .int v1), (2, .int v2)]) C dX5_stonesOf_28 rfl 3 rfl rfl (Nat.le_of_ble_eq_true rfl) rfl ?_
        refine r_goto (tgt := 4) C dX5_stonesOf_31 rfl ?_
        refine r_sub [1, 2, 3, 0] rfl ?_
        exact ih _ _ _ _ h Z C hE
      · rw [if_pos c2] at h
        refine r_iload_n (pc' := 20) C dX5_stonesOf_19 rfl 2 rfl ?_
        refine r_aload_n (pc' := 21) C dX5_stonesOf_20 rfl 0 rfl ?_
        refine r_getR (pc' := 24) C flX5_9 (st0 hk0) rfl dX5_stonesOf_21 rfl ?_
        refine r_iload_n (pc' := 25) C dX5_stonesOf_24 rfl 3 rfl ?_
        obtain ⟨q3, h⟩ := ck h
        refine r_iald (pc' := 26) C (st1 hk0) (vin q3) dX5_stonesOf_25 rfl ?_
        refine r_iadd (pc' := 27) C dX5_stonesOf_26 rfl ?_
        refine r_istore_n (pc' := 28) (lv2 := [(2, .int (v2 + (gi σ (k0 + 1) v3.toNatClampNeg))), (0, .ref k0), (1, .int v1), (3, .int v3)]) C dX5_stonesOf_27 rfl rfl (Nat.le_of_ble_eq_true rfl) rfl ?_
        refine r_iinc (pc' := 31) (v := v3 + 1) (lv2 := [(3, .int (v3 + 1)), (2, .int (v2 + (gi σ (k0 + 1) v3.toNatClampNeg))), (0, .ref k0), (1, .int v1)]) C dX5_stonesOf_28 rfl 3 rfl rfl (Nat.le_of_ble_eq_true rfl) rfl ?_
        refine r_goto (tgt := 4) C dX5_stonesOf_31 rfl ?_
        refine r_sub [2, 3, 1, 0] rfl ?_
        exact ih _ _ _ _ h Z C hE
def X5_stonesOf (N : Nat) (k0 : Nat) (v1 : Int32) (σ : Sg) : Option (Int32) :=
  X5_stonesOf_l4 N k0 σ N v1 0 0
set_option maxRecDepth 100000 in
set_option maxHeartbeats 4000000 in
theorem X5_stonesOf_ok {E : Ev} {k0 : Nat} (hk0 : StAt SH0 k0) {N : Nat} {v1 : Int32} {σ : Sg} {r : Int32} (h : X5_stonesOf N k0 v1 σ = some r) : Cm E (0) yX5_stonesOf cX5_stonesOf 4 (some .int) [.ref k0, .int v1] SH0 SH0 σ σ (some (.int r)) 0 0 := by
  refine Cm.intro (by decide +kernel) (Nat.le_of_ble_eq_true rfl) (fun _ h => by obtain ⟨_, _, _, _, _, _, h⟩ := h; exact h) (fun Z C hE => ?_)
  show Wm E Z 0 0 SH0 σ 0 [(0, .ref k0), (1, .int v1)] []
  unfold X5_stonesOf at h
  refine r_iconst (pc' := 1) C dX5_stonesOf_0 rfl kc_0 ?_
  refine r_istore_n (pc' := 2) (lv2 := [(2, .int 0), (0, .ref k0), (1, .int v1)]) C dX5_stonesOf_1 rfl rfl (Nat.le_of_ble_eq_true rfl) rfl ?_
  refine r_iconst (pc' := 3) C dX5_stonesOf_2 rfl kc_0 ?_
  refine r_istore_n (pc' := 4) (lv2 := [(3, .int 0), (2, .int 0), (0, .ref k0), (1, .int v1)]) C dX5_stonesOf_3 rfl rfl (Nat.le_of_ble_eq_true rfl) rfl ?_
  refine r_sub [2, 3, 1, 0] rfl ?_
  exact X5_stonesOf_l4_ok hk0 N _ _ _ _ h Z C hE

/-! BorrowedWeight$Land.needOf(I)I -/
def X0_needOf_l4 (N : Nat)   (σ : Sg) : Nat → Int32 → Int32 → Int32 → Option (Int32)
  | 0, _, _, _ => none
  | n + 1, v1, v2, v3 =>
    if 8 ≤ v3 then (some v2) else (if ((v1 >>> (v3 &&& 31)) &&& 1) = 1 then (if inb v3 8 = true then X0_needOf_l4 N σ n v1 (v2 + (gi σ 15 v3.toNatClampNeg)) (v3 + 1) else none) else (X0_needOf_l4 N σ n v1 v2 (v3 + 1)))
set_option maxRecDepth 100000 in
set_option maxHeartbeats 4000000 in
theorem X0_needOf_l4_ok {E : Ev}  {N : Nat}  {σ : Sg}  : ∀ (n : Nat) (v1 : Int32) (v2 : Int32) (v3 : Int32) (r : Int32), X0_needOf_l4 N σ n v1 v2 v3 = some r → Gp E RX0 cX0_needOf (some .int) 4 (0) SH0 σ (some (.int r)) σ 4 [(0, .ref 5), (1, .int v1), (2, .int v2), (3, .int v3)] [] := by
  intro n
  induction n with
  | zero => intro v1 v2 v3 r h; cases h
  | succ n ih =>
    intro v1 v2 v3 r h Z C hE
    unfold X0_needOf_l4 at h
    refine r_iload_n (pc' := 5) C dX0_needOf_4 rfl 3 rfl ?_
    refine r_bipush (pc' := 7) C dX0_needOf_5 rfl kb_8 ?_
    refine r_icmp_ge (tgt := 34) (pc' := 10) C dX0_needOf_7 rfl rfl (fun c1 => ?_) (fun c1 => ?_)
    · rw [if_pos c1] at h
      refine r_iload_n (pc' := 35) C dX0_needOf_34 rfl 2 rfl ?_
      have h := Option.some.inj h
      subst h
      exact r_ret C rfl dX0_needOf_35 hE
    · rw [if_neg c1] at h
      refine r_iload_n (pc' := 11) C dX0_needOf_10 rfl 1 rfl ?_
      refine r_iload_n (pc' := 12) C dX0_needOf_11 rfl 3 rfl ?_
      refine r_ishr (pc' := 13) C dX0_needOf_12 rfl ?_
      refine r_iconst (pc' := 14) C dX0_needOf_13 rfl kc_1 ?_
      refine r_iand (pc' := 15) C dX0_needOf_14 rfl ?_
      refine r_iconst (pc' := 16) C dX0_needOf_15 rfl kc_1 ?_
      refine r_icmp_ne (tgt := 28) (pc' := 19) C dX0_needOf_16 rfl rfl (fun c2 => ?_) (fun c2 => ?_)
      · rw [if_neg c2] at h
        refine r_iinc (pc' := 31) (v := v3 + 1) (lv2 := [(3, .int (v3 + 1)), (0, .ref 5), (1, .int v1), (2, .int v2)]) C dX0_needOf_28 rfl 3 rfl rfl (Nat.le_of_ble_eq_true rfl) rfl ?_
        refine r_goto (tgt := 4) C dX0_needOf_31 rfl ?_
        refine r_sub [1, 2, 3, 0] rfl ?_
        exact ih _ _ _ _ h Z C hE
      · rw [if_pos c2] at h
        refine r_iload_n (pc' := 20) C dX0_needOf_19 rfl 2 rfl ?_
        refine r_aload_n (pc' := 21) C dX0_needOf_20 rfl 0 rfl ?_
        refine r_getR (pc' := 24) C flX0_25 sh_5 rfl dX0_needOf_21 rfl ?_
        refine r_iload_n (pc' := 25) C dX0_needOf_24 rfl 3 rfl ?_
        obtain ⟨q3, h⟩ := ck h
        refine r_iald (pc' := 26) C sh_15 (vin q3) dX0_needOf_25 rfl ?_
        refine r_iadd (pc' := 27) C dX0_needOf_26 rfl ?_
        refine r_istore_n (pc' := 28) (lv2 := [(2, .int (v2 + (gi σ 15 v3.toNatClampNeg))), (0, .ref 5), (1, .int v1), (3, .int v3)]) C dX0_needOf_27 rfl rfl (Nat.le_of_ble_eq_true rfl) rfl ?_
        refine r_iinc (pc' := 31) (v := v3 + 1) (lv2 := [(3, .int (v3 + 1)), (2, .int (v2 + (gi σ 15 v3.toNatClampNeg))), (0, .ref 5), (1, .int v1)]) C dX0_needOf_28 rfl 3 rfl rfl (Nat.le_of_ble_eq_true rfl) rfl ?_
        refine r_goto (tgt := 4) C dX0_needOf_31 rfl ?_
        refine r_sub [2, 3, 1, 0] rfl ?_
        exact ih _ _ _ _ h Z C hE
def X0_needOf (N : Nat)  (v1 : Int32) (σ : Sg) : Option (Int32) :=
  X0_needOf_l4 N σ N v1 0 0
set_option maxRecDepth 100000 in
set_option maxHeartbeats 4000000 in
theorem X0_needOf_ok {E : Ev}  {N : Nat} {v1 : Int32} {σ : Sg} {r : Int32} (h : X0_needOf N  v1 σ = some r) : Cm E (0) yX0_needOf cX0_needOf 4 (some .int) [.ref 5, .int v1] SH0 SH0 σ σ (some (.int r)) 0 0 := by
  refine Cm.intro (by decide +kernel) (Nat.le_of_ble_eq_true rfl) (fun _ h => by obtain ⟨_, _, _, _, _, _, h⟩ := h; exact h) (fun Z C hE => ?_)
  show Wm E Z 0 0 SH0 σ 0 [(0, .ref 5), (1, .int v1)] []
  unfold X0_needOf at h
  refine r_iconst (pc' := 1) C dX0_needOf_0 rfl kc_0 ?_
  refine r_istore_n (pc' := 2) (lv2 := [(2, .int 0), (0, .ref 5), (1, .int v1)]) C dX0_needOf_1 rfl rfl (Nat.le_of_ble_eq_true rfl) rfl ?_
  refine r_iconst (pc' := 3) C dX0_needOf_2 rfl kc_0 ?_
  refine r_istore_n (pc' := 4) (lv2 := [(3, .int 0), (2, .int 0), (0, .ref 5), (1, .int v1)]) C dX0_needOf_3 rfl rfl (Nat.le_of_ble_eq_true rfl) rfl ?_
  refine r_sub [2, 3, 1, 0] rfl ?_
  exact X0_needOf_l4_ok  N _ _ _ _ h Z C hE

/-! BorrowedWeight$Land.excess(LBorrowedWeight$State;I)I -/
def X0_excess (N : Nat) (k1 : Nat) (v2 : Int32) (σ : Sg) : Option (Int32) :=
  (X5_stonesOf N k1 v2 σ).bind fun r1 => ((X0_needOf N v2 σ).bind fun r3 => (some (r1 - r3)))
set_option maxRecDepth 100000 in
set_option maxHeartbeats 4000000 in
theorem X0_excess_ok {E : Ev} {k1 : Nat} (hk1 : StAt SH0 k1) {N : Nat} {v2 : Int32} {σ : Sg} {r : Int32} (h : X0_excess N k1 v2 σ = some r) : Cm E (1) yX0_excess cX0_excess 3 (some .int) [.ref 5, .ref k1, .int v2] SH0 SH0 σ σ (some (.int r)) 0 0 := by
  refine Cm.intro (by decide +kernel) (Nat.le_of_ble_eq_true rfl) (fun _ h => by obtain ⟨_, _, _, _, _, _, h⟩ := h; exact h) (fun Z C hE => ?_)
  show Wm E Z 0 0 SH0 σ 0 [(0, .ref 5), (1, .ref k1), (2, .int v2)] []
  unfold X0_excess at h
  refine r_aload_n (pc' := 1) C dX0_excess_0 rfl 1 rfl ?_
  refine r_iload_n (pc' := 2) C dX0_excess_1 rfl 2 rfl ?_
  obtain ⟨r1, e2, h⟩ := bd h
  refine r_cV1 (pc' := 5) C (X5_stonesOf_ok hk1 e2) mlX0_115 ceX5_stonesOf cvX5_stonesOf (st0 hk1) rfl rfl rfl (Nat.le_of_ble_eq_true rfl) rfl (Nat.le_of_ble_eq_true rfl) dX0_excess_2 rfl (kk := ?_)
  refine r_aload_n (pc' := 6) C dX0_excess_5 rfl 0 rfl ?_
  refine r_iload_n (pc' := 7) C dX0_excess_6 rfl 2 rfl ?_
  obtain ⟨r3, e4, h⟩ := bd h
  refine r_cV1 (pc' := 10) C (X0_needOf_ok  e4) mlX0_118 ceX0_needOf cvX0_needOf sh_5 rfl rfl rfl (Nat.le_of_ble_eq_true rfl) rfl (Nat.le_of_ble_eq_true rfl) dX0_excess_7 rfl (kk := ?_)
  refine r_isub (pc' := 11) C dX0_excess_10 rfl ?_
  have h := Option.some.inj h
  subst h
  exact r_ret C rfl dX0_excess_11 hE

/-! BorrowedWeight$Land.floating(LBorrowedWeight$State;LBorrowedWeight$Rule;)I -/
def X0_floating_l16 (N : Nat) (k1 : Nat) (k2 : Nat)   : Nat → Int32 → Int32 → Sg → Option (Int32 × Sg)
  | 0, _, _, _ => none
  | n + 1, v3, v4, σ =>
    if (gi σ 5 6) ≤ v4 then (some (v3, σ)) else (if inb v4 8 = true then (X0_excess N k1 (gi σ 16 v4.toNatClampNeg) σ).bind fun r7 => (if 0 ≤ r7 then (X0_floating_l16 N k1 k2 n v3 (v4 + 1) σ) else (if inb v4 8 = true then X0_floating_l16 N k1 k2 n (v3 ||| (gi σ 16 v4.toNatClampNeg)) (v4 + 1) σ else none)) else none)
set_option maxRecDepth 100000 in
set_option maxHeartbeats 4000000 in
theorem X0_floating_l16_ok {E : Ev} {k1 : Nat} (hk1 : StAt SH0 k1) {k2 : Nat} (hk2 : RuAt SH0 k2) {N : Nat}    : ∀ (n : Nat) (v3 : Int32) (v4 : Int32) (σ : Sg) (r : Int32 × Sg), X0_floating_l16 N k1 k2 n v3 v4 σ = some r → Gp E RX0 cX0_floating (some .int) 5 (3) SH0 r.2 (some (.int r.1)) σ 16 [(0, .ref 5), (1, .ref k1), (3, .int v3), (4, .int v4)] [] := by
  intro n
  induction n with
  | zero => intro v3 v4 σ r h; cases h
  | succ n ih =>
    intro v3 v4 σ r h Z C hE
    unfold X0_floating_l16 at h
    refine r_iload (pc' := 18) C dX0_floating_16 rfl 3 rfl ?_
    refine r_aload_n (pc' := 19) C dX0_floating_18 rfl 0 rfl ?_
    refine r_getI (pc' := 22) C flX0_105 sh_5 rfl dX0_floating_19 rfl ?_
    refine r_icmp_ge (tgt := 56) (pc' := 25) C dX0_floating_22 rfl rfl (fun c5 => ?_) (fun c5 => ?_)
    · rw [if_pos c5] at h
      refine r_iload_n (pc' := 57) C dX0_floating_56 rfl 2 rfl ?_
      have h := Option.some.inj h
      subst h
      exact r_ret C rfl dX0_floating_57 hE
    · rw [if_neg c5] at h
      refine r_aload_n (pc' := 26) C dX0_floating_25 rfl 0 rfl ?_
      refine r_aload_n (pc' := 27) C dX0_floating_26 rfl 1 rfl ?_
      refine r_aload_n (pc' := 28) C dX0_floating_27 rfl 0 rfl ?_
      refine r_getR (pc' := 31) C flX0_28 sh_5 rfl dX0_floating_28 rfl ?_
      refine r_iload (pc' := 33) C dX0_floating_31 rfl 3 rfl ?_
      obtain ⟨q6, h⟩ := ck h
      refine r_iald (pc' := 34) C sh_16 (vin q6) dX0_floating_33 rfl ?_
      obtain ⟨r7, e8, h⟩ := bd h
      refine r_cV1 (pc' := 37) C (X0_excess_ok hk1 e8) mlX0_129 ceX0_excess cvX0_excess sh_5 rfl rfl rfl (Nat.le_of_ble_eq_true rfl) rfl (Nat.le_of_ble_eq_true rfl) dX0_floating_34 rfl (kk := ?_)
      refine r_if_ge (tgt := 50) (pc' := 40) C dX0_floating_37 rfl rfl (fun c9 => ?_) (fun c9 => ?_)
      · rw [if_pos c9] at h
        refine r_iinc (pc' := 53) (v := v4 + 1) (lv2 := [(4, .int (v4 + 1)), (0, .ref 5), (1, .ref k1), (3, .int v3)]) C dX0_floating_50 rfl 3 rfl rfl (Nat.le_of_ble_eq_true rfl) rfl ?_
        refine r_goto (tgt := 16) C dX0_floating_53 rfl ?_
        refine r_sub [1, 2, 3, 0] rfl ?_
        exact ih _ _ _ _ h Z C hE
      · rw [if_neg c9] at h
        refine r_iload_n (pc' := 41) C dX0_floating_40 rfl 2 rfl ?_
        refine r_aload_n (pc' := 42) C dX0_floating_41 rfl 0 rfl ?_
        refine r_getR (pc' := 45) C flX0_28 sh_5 rfl dX0_floating_42 rfl ?_
        refine r_iload (pc' := 47) C dX0_floating_45 rfl 3 rfl ?_
        obtain ⟨q10, h⟩ := ck h
        refine r_iald (pc' := 48) C sh_16 (vin q10) dX0_floating_47 rfl ?_
        refine r_ior (pc' := 49) C dX0_floating_48 rfl ?_
        refine r_istore_n (pc' := 50) (lv2 := [(3, .int (v3 ||| (gi σ 16 v4.toNatClampNeg))), (0, .ref 5), (1, .ref k1), (4, .int v4)]) C dX0_floating_49 rfl rfl (Nat.le_of_ble_eq_true rfl) rfl ?_
        refine r_iinc (pc' := 53) (v := v4 + 1) (lv2 := [(4, .int (v4 + 1)), (3, .int (v3 ||| (gi σ 16 v4.toNatClampNeg))), (0, .ref 5), (1, .ref k1)]) C dX0_floating_50 rfl 3 rfl rfl (Nat.le_of_ble_eq_true rfl) rfl ?_
        refine r_goto (tgt := 16) C dX0_floating_53 rfl ?_
        refine r_sub [2, 3, 1, 0] rfl ?_
        exact ih _ _ _ _ h Z C hE
def X0_floating (N : Nat) (k1 : Nat) (k2 : Nat)  (σ : Sg) : Option (Int32 × Sg) :=
  (X0_weigh N k1 k2 σ).bind fun r1 => ((X0_part N k1 r1).bind fun r3 => (X0_floating_l16 N k1 k2 N 0 0 r3))
set_option maxRecDepth 100000 in
set_option maxHeartbeats 4000000 in
theorem X0_floating_ok {E : Ev} {k1 : Nat} (hk1 : StAt SH0 k1) {k2 : Nat} (hk2 : RuAt SH0 k2) {N : Nat}  {σ : Sg} {r : Int32 × Sg} (h : X0_floating N k1 k2  σ = some r) : Cm E (3) yX0_floating cX0_floating 5 (some .int) [.ref 5, .ref k1, .ref k2] SH0 SH0 σ r.2 (some (.int r.1)) 0 0 := by
  refine Cm.intro (by decide +kernel) (Nat.le_of_ble_eq_true rfl) (fun _ h => by obtain ⟨_, _, _, _, _, _, h⟩ := h; exact h) (fun Z C hE => ?_)
  show Wm E Z 0 0 SH0 σ 0 [(0, .ref 5), (1, .ref k1), (2, .ref k2)] []
  unfold X0_floating at h
  refine r_aload_n (pc' := 1) C dX0_floating_0 rfl 0 rfl ?_
  refine r_aload_n (pc' := 2) C dX0_floating_1 rfl 1 rfl ?_
  refine r_aload_n (pc' := 3) C dX0_floating_2 rfl 2 rfl ?_
  obtain ⟨r1, e2, h⟩ := bd h
  refine r_cV0 (pc' := 6) C (X0_weigh_ok hk1 hk2 e2) mlX0_121 ceX0_weigh cvX0_weigh sh_5 rfl rfl rfl (Nat.le_of_ble_eq_true rfl) rfl (Nat.le_of_ble_eq_true rfl) dX0_floating_3 rfl (kk := ?_)
  refine r_aload_n (pc' := 7) C dX0_floating_6 rfl 0 rfl ?_
  refine r_aload_n (pc' := 8) C dX0_floating_7 rfl 1 rfl ?_
  obtain ⟨r3, e4, h⟩ := bd h
  refine r_cV0 (pc' := 11) C (X0_part_ok hk1 e4) mlX0_125 ceX0_part cvX0_part sh_5 rfl rfl rfl (Nat.le_of_ble_eq_true rfl) rfl (Nat.le_of_ble_eq_true rfl) dX0_floating_8 rfl (kk := ?_)
  refine r_iconst (pc' := 12) C dX0_floating_11 rfl kc_0 ?_
  refine r_istore_n (pc' := 13) (lv2 := [(3, .int 0), (0, .ref 5), (1, .ref k1), (2, .ref k2)]) C dX0_floating_12 rfl rfl (Nat.le_of_ble_eq_true rfl) rfl ?_
  refine r_iconst (pc' := 14) C dX0_floating_13 rfl kc_0 ?_
  refine r_istore (pc' := 16) (lv2 := [(4, .int 0), (3, .int 0), (0, .ref 5), (1, .ref k1), (2, .ref k2)]) C dX0_floating_14 rfl (Nat.le_of_ble_eq_true rfl) rfl ?_
  refine r_sub [2, 3, 1, 0] rfl ?_
  exact X0_floating_l16_ok hk1 hk2 N _ _ _ _ h Z C hE

/-! BorrowedWeight$State.lose(I)I -/
def X5_lose_l44 (N : Nat) (k0 : Nat)   : Nat → Int32 → Int32 → Int32 → Sg → Option (Int32 × Sg)
  | 0, _, _, _, _ => none
  | n + 1, v1, v2, v3, σ =>
    if 8 ≤ v3 then (some (v2, σ)) else ((X5_isTied N k0 v1 v3 σ).bind fun r12 => (if r12 = 0 then (X5_lose_l44 N k0 n v1 v2 (v3 + 1) σ) else ((X5_toggle N k0 v1 v3 σ).bind fun r15 => (X5_lose_l44 N k0 n v1 v2 (v3 + 1) r15))))
set_option maxRecDepth 100000 in
set_option maxHeartbeats 4000000 in
theorem X5_lose_l44_ok {E : Ev} {k0 : Nat} (hk0 : StAt SH0 k0) {N : Nat}    : ∀ (n : Nat) (v1 : Int32) (v2 : Int32) (v3 : Int32) (σ : Sg) (r : Int32 × Sg), X5_lose_l44 N k0 n v1 v2 v3 σ = some r → Gp E RX5 cX5_lose (some .int) 4 (1) SH0 r.2 (some (.int r.1)) σ 44 [(0, .ref k0), (1, .int v1), (2, .int v2), (3, .int v3)] [] := by
  intro n
  induction n with
  | zero => intro v1 v2 v3 σ r h; cases h
  | succ n ih =>
    intro v1 v2 v3 σ r h Z C hE
    unfold X5_lose_l44 at h
    refine r_iload_n (pc' := 45) C dX5_lose_44 rfl 3 rfl ?_
    refine r_bipush (pc' := 47) C dX5_lose_45 rfl kb_8 ?_
    refine r_icmp_ge (tgt := 71) (pc' := 50) C dX5_lose_47 rfl rfl (fun c11 => ?_) (fun c11 => ?_)
    · rw [if_pos c11] at h
      refine r_iload_n (pc' := 72) C dX5_lose_71 rfl 2 rfl ?_
      have h := Option.some.inj h
      subst h
      exact r_ret C rfl dX5_lose_72 hE
    · rw [if_neg c11] at h
      refine r_aload_n (pc' := 51) C dX5_lose_50 rfl 0 rfl ?_
      refine r_iload_n (pc' := 52) C dX5_lose_51 rfl 1 rfl ?_
      refine r_iload_n (pc' := 53) C dX5_lose_52 rfl 3 rfl ?_
      obtain ⟨r12, e13, h⟩ := bd h
      refine r_cV1 (pc' := 56) C (X5_isTied_ok hk0 e13) mlX5_52 ceX5_isTied cvX5_isTied (st0 hk0) rfl rfl rfl (Nat.le_of_ble_eq_true rfl) rfl (Nat.le_of_ble_eq_true rfl) dX5_lose_53 rfl (kk := ?_)
      refine r_if_eq (tgt := 65) (pc' := 59) C dX5_lose_56 rfl rfl (fun c14 => ?_) (fun c14 => ?_)
      · rw [if_pos c14] at h
        refine r_iinc (pc' := 68) (v := v3 + 1) (lv2 := [(3, .int (v3 + 1)), (0, .ref k0), (1, .int v1), (2, .int v2)]) C dX5_lose_65 rfl 3 rfl rfl (Nat.le_of_ble_eq_true rfl) rfl ?_
        refine r_goto (tgt := 44) C dX5_lose_68 rfl ?_
        refine r_sub [1, 2, 3, 0] rfl ?_
        exact ih _ _ _ _ _ h Z C hE
      · rw [if_neg c14] at h
        refine r_aload_n (pc' := 60) C dX5_lose_59 rfl 0 rfl ?_
        refine r_iload_n (pc' := 61) C dX5_lose_60 rfl 1 rfl ?_
        refine r_iload_n (pc' := 62) C dX5_lose_61 rfl 3 rfl ?_
        obtain ⟨r15, e16, h⟩ := bd h
        refine r_cV0 (pc' := 65) C (X5_toggle_ok hk0 e16) mlX5_56 ceX5_toggle cvX5_toggle (st0 hk0) rfl rfl rfl (Nat.le_of_ble_eq_true rfl) rfl (Nat.le_of_ble_eq_true rfl) dX5_lose_62 rfl (kk := ?_)
        refine r_iinc (pc' := 68) (v := v3 + 1) (lv2 := [(3, .int (v3 + 1)), (0, .ref k0), (1, .int v1), (2, .int v2)]) C dX5_lose_65 rfl 3 rfl rfl (Nat.le_of_ble_eq_true rfl) rfl ?_
        refine r_goto (tgt := 44) C dX5_lose_68 rfl ?_
        refine r_sub [1, 2, 3, 0] rfl ?_
        exact ih _ _ _ _ _ h Z C hE
def X5_lose (N : Nat) (k0 : Nat) (v1 : Int32) (σ : Sg) : Option (Int32 × Sg) :=
  if inb v1 8 = true then (J9_min_7cf53 N ((gi σ k0 7) + (gi σ (k0 + 1) v1.toNatClampNeg)) 999 σ).bind fun r2 => (bnS (wi σ k0 7 r2) fun σ4 => if inb v1 8 = true then bnS (wi σ4 (k0 + 1) v1.toNatClampNeg 0) fun σ7 => bnS (wi σ7 k0 4 ((gi σ7 k0 4) ||| (1 <<< (v1 &&& 31)))) fun σ9 => X5_lose_l44 N k0 N v1 (gi σ (k0 + 1) v1.toNatClampNeg) 0 σ9 else none) else none
set_option maxRecDepth 100000 in
set_option maxHeartbeats 4000000 in
theorem X5_lose_ok {E : Ev} {k0 : Nat} (hk0 : StAt SH0 k0) {N : Nat} {v1 : Int32} {σ : Sg} {r : Int32 × Sg} (h : X5_lose N k0 v1 σ = some r) : Cm E (1) yX5_lose cX5_lose 4 (some .int) [.ref k0, .int v1] SH0 SH0 σ r.2 (some (.int r.1)) 0 0 := by
  refine Cm.intro (by decide +kernel) (Nat.le_of_ble_eq_true rfl) (fun _ h => by obtain ⟨_, _, _, _, _, _, h⟩ := h; exact h) (fun Z C hE => ?_)
  show Wm E Z 0 0 SH0 σ 0 [(0, .ref k0), (1, .int v1)] []
  unfold X5_lose at h
  refine r_aload_n (pc' := 1) C dX5_lose_0 rfl 0 rfl ?_
  refine r_getR (pc' := 4) C flX5_9 (st0 hk0) rfl dX5_lose_1 rfl ?_
  refine r_iload_n (pc' := 5) C dX5_lose_4 rfl 1 rfl ?_
  obtain ⟨q1, h⟩ := ck h
  refine r_iald (pc' := 6) C (st1 hk0) (vin q1) dX5_lose_5 rfl ?_
  refine r_istore_n (pc' := 7) (lv2 := [(2, .int (gi σ (k0 + 1) v1.toNatClampNeg)), (0, .ref k0), (1, .int v1)]) C dX5_lose_6 rfl rfl (Nat.le_of_ble_eq_true rfl) rfl ?_
  refine r_aload_n (pc' := 8) C dX5_lose_7 rfl 1 rfl ?_
  refine r_aload_n (pc' := 9) C dX5_lose_8 rfl 1 rfl ?_
  refine r_getI (pc' := 12) C flX5_34 (st0 hk0) rfl dX5_lose_9 rfl ?_
  refine r_iload_n (pc' := 13) C dX5_lose_12 rfl 0 rfl ?_
  refine r_iadd (pc' := 14) C dX5_lose_13 rfl ?_
  refine r_sipush (pc' := 17) C dX5_lose_14 rfl ks_999 ?_
  obtain ⟨r2, e3, h⟩ := bd h
  refine r_cS1 (pc' := 20) C (J9_min_7cf53_ok  e3) mlX5_46 ceJ9_min_7cf53 csJ9_min_7cf53 rfl (Nat.le_of_ble_eq_true rfl) rfl (Nat.le_of_ble_eq_true rfl) dX5_lose_17 rfl (kk := ?_)
  obtain ⟨σ4, e5, h⟩ := bs h
  refine r_putI (pc' := 23) (σ1 := σ4) C fpX5_34 (st0 hk0) rfl rfl rfl dX5_lose_20 rfl e5 ?_
  refine r_aload_n (pc' := 24) C dX5_lose_23 rfl 1 rfl ?_
  refine r_getR (pc' := 27) C flX5_9 (st0 hk0) rfl dX5_lose_24 rfl ?_
  refine r_iload_n (pc' := 28) C dX5_lose_27 rfl 2 rfl ?_
  refine r_iconst (pc' := 29) C dX5_lose_28 rfl kc_0 ?_
  obtain ⟨q6, h⟩ := ck h
  obtain ⟨σ7, e8, h⟩ := bs h
  refine r_iast (pc' := 30) (σ1 := σ7) C (st1 hk0) (vin q6) dX5_lose_29 rfl e8 ?_
  refine r_aload_n (pc' := 31) C dX5_lose_30 rfl 1 rfl ?_
  refine r_dup (pc' := 32) C dX5_lose_31 rfl rfl ?_
  refine r_getI (pc' := 35) C flX5_28 (st0 hk0) rfl dX5_lose_32 rfl ?_
  refine r_iconst (pc' := 36) C dX5_lose_35 rfl kc_1 ?_
  refine r_iload_n (pc' := 37) C dX5_lose_36 rfl 2 rfl ?_
  refine r_ishl (pc' := 38) C dX5_lose_37 rfl ?_
  refine r_ior (pc' := 39) C dX5_lose_38 rfl ?_
  obtain ⟨σ9, e10, h⟩ := bs h
  refine r_putI (pc' := 42) (σ1 := σ9) C fpX5_28 (st0 hk0) rfl rfl rfl dX5_lose_39 rfl e10 ?_
  refine r_iconst (pc' := 43) C dX5_lose_42 rfl kc_0 ?_
  refine r_istore_n (pc' := 44) (lv2 := [(3, .int 0), (2, .int (gi σ (k0 + 1) v1.toNatClampNeg)), (0, .ref k0), (1, .int v1)]) C dX5_lose_43 rfl rfl (Nat.le_of_ble_eq_true rfl) rfl ?_
  refine r_sub [2, 3, 1, 0] rfl ?_
  exact X5_lose_l44_ok hk0 N _ _ _ _ _ h Z C hE

/-! BorrowedWeight$Land.passHour(LBorrowedWeight$State;I)I -/
def X0_passHour_j93 (N : Nat) (k1 : Nat) (kr : Int32 → Int32 → Int32 → Sg → Option (Int32 × Sg)) (v2 : Int32) (v3 : Int32) (v4 : Int32) (σ : Sg) : Option (Int32 × Sg) :=
  (X5_isGone N k1 v4 σ).bind fun r10 => (if r10 = 0 then (if inb v4 8 = true then if inb v4 8 = true then (J9_min_7cf53 N ((gi σ (k1 + 3) v4.toNatClampNeg) + (gi σ (k1 + 1) v4.toNatClampNeg)) 999 σ).bind fun r15 => (if inb v4 8 = true then bnS (wi σ (k1 + 3) v4.toNatClampNeg r15) fun σ18 => kr v2 v3 (v4 + 1) σ18 else none) else none else none) else (kr v2 v3 (v4 + 1) σ))
set_option maxRecDepth 100000 in
set_option maxHeartbeats 4000000 in
theorem X0_passHour_j93_ok {E : Ev} {k1 : Nat} (hk1 : StAt SH0 k1) {N : Nat} {kr : Int32 → Int32 → Int32 → Sg → Option (Int32 × Sg)}  (hkr : ∀ (v2 : Int32) (v3 : Int32) (v4 : Int32) (σ : Sg) (r : Int32 × Sg), kr v2 v3 v4 σ = some r → Gp E RX0 cX0_passHour (some .int) 5 (2) SH0 r.2 (some (.int r.1)) σ 5 [(0, .ref 5), (1, .ref k1), (2, .int v2), (3, .int v3), (4, .int v4)] []) {v2 : Int32} {v3 : Int32} {v4 : Int32} {σ : Sg} {r : Int32 × Sg} (h : X0_passHour_j93 N k1 kr v2 v3 v4 σ = some r) : Gp E RX0 cX0_passHour (some .int) 5 (2) SH0 r.2 (some (.int r.1)) σ 93 [(0, .ref 5), (1, .ref k1), (2, .int v2), (3, .int v3), (4, .int v4)] [] := by
  intro Z C hE
  unfold X0_passHour_j93 at h
  refine r_aload_n (pc' := 94) C dX0_passHour_93 rfl 1 rfl ?_
  refine r_iload (pc' := 96) C dX0_passHour_94 rfl 4 rfl ?_
  obtain ⟨r10, e11, h⟩ := bd h
  refine r_cV1 (pc' := 99) C (X5_isGone_ok hk1 e11) mlX0_80 ceX5_isGone cvX5_isGone (st0 hk1) rfl rfl rfl (Nat.le_of_ble_eq_true rfl) rfl (Nat.le_of_ble_eq_true rfl) dX0_passHour_96 rfl (kk := ?_)
  refine r_if_ne (tgt := 130) (pc' := 102) C dX0_passHour_99 rfl rfl (fun c12 => ?_) (fun c12 => ?_)
  · rw [if_neg c12] at h
    refine r_iinc (pc' := 133) (v := v4 + 1) (lv2 := [(4, .int (v4 + 1)), (0, .ref 5), (1, .ref k1), (2, .int v2), (3, .int v3)]) C dX0_passHour_130 rfl 4 rfl rfl (Nat.le_of_ble_eq_true rfl) rfl ?_
    refine r_goto (tgt := 5) C dX0_passHour_133 rfl ?_
    refine r_sub [1, 2, 3, 4, 0] rfl ?_
    exact hkr _ _ _ _ _ h Z C hE
  · rw [if_pos c12] at h
    refine r_aload_n (pc' := 103) C dX0_passHour_102 rfl 1 rfl ?_
    refine r_getR (pc' := 106) C flX0_98 (st0 hk1) rfl dX0_passHour_103 rfl ?_
    refine r_iload (pc' := 108) C dX0_passHour_106 rfl 4 rfl ?_
    refine r_aload_n (pc' := 109) C dX0_passHour_108 rfl 1 rfl ?_
    refine r_getR (pc' := 112) C flX0_98 (st0 hk1) rfl dX0_passHour_109 rfl ?_
    refine r_iload (pc' := 114) C dX0_passHour_112 rfl 4 rfl ?_
    obtain ⟨q13, h⟩ := ck h
    refine r_iald (pc' := 115) C (st3 hk1) (vin q13) dX0_passHour_114 rfl ?_
    refine r_aload_n (pc' := 116) C dX0_passHour_115 rfl 1 rfl ?_
    refine r_getR (pc' := 119) C flX0_92 (st0 hk1) rfl dX0_passHour_116 rfl ?_
    refine r_iload (pc' := 121) C dX0_passHour_119 rfl 4 rfl ?_
    obtain ⟨q14, h⟩ := ck h
    refine r_iald (pc' := 122) C (st1 hk1) (vin q14) dX0_passHour_121 rfl ?_
    refine r_iadd (pc' := 123) C dX0_passHour_122 rfl ?_
    refine r_sipush (pc' := 126) C dX0_passHour_123 rfl ks_999 ?_
    obtain ⟨r15, e16, h⟩ := bd h
    refine r_cS1 (pc' := 129) C (J9_min_7cf53_ok  e16) mlX0_53 ceJ9_min_7cf53 csJ9_min_7cf53 rfl (Nat.le_of_ble_eq_true rfl) rfl (Nat.le_of_ble_eq_true rfl) dX0_passHour_126 rfl (kk := ?_)
    obtain ⟨q17, h⟩ := ck h
    obtain ⟨σ18, e19, h⟩ := bs h
    refine r_iast (pc' := 130) (σ1 := σ18) C (st3 hk1) (vin q17) dX0_passHour_129 rfl e19 ?_
    refine r_iinc (pc' := 133) (v := v4 + 1) (lv2 := [(4, .int (v4 + 1)), (0, .ref 5), (1, .ref k1), (2, .int v2), (3, .int v3)]) C dX0_passHour_130 rfl 4 rfl rfl (Nat.le_of_ble_eq_true rfl) rfl ?_
    refine r_goto (tgt := 5) C dX0_passHour_133 rfl ?_
    refine r_sub [1, 2, 3, 4, 0] rfl ?_
    exact hkr _ _ _ _ _ h Z C hE
def X0_passHour_l5 (N : Nat) (k1 : Nat) (k136 : Int32 → Sg → Option (Int32 × Sg))  : Nat → Int32 → Int32 → Int32 → Sg → Option (Int32 × Sg)
  | 0, _, _, _, _ => none
  | n + 1, v2, v3, v4, σ =>
    if (gi σ 5 1) ≤ v4 then (k136 v3 σ) else ((X5_isGone N k1 v4 σ).bind fun r2 => (if r2 = 0 then (if ((v2 >>> (v4 &&& 31)) &&& 1) = 0 then (if inb v4 8 = true then (J9_max_7cf53 N 0 ((gi σ (k1 + 2) v4.toNatClampNeg) - 1) σ).bind fun r25 => (if inb v4 8 = true then bnS (wi σ (k1 + 2) v4.toNatClampNeg r25) fun σ28 => X0_passHour_j93 N k1 (fun v2 v3 v4 σ => X0_passHour_l5 N k1 k136 n v2 v3 v4 σ) v2 v3 v4 σ28 else none) else none) else (if inb v4 8 = true then if 9 ≤ (gi σ (k1 + 2) v4.toNatClampNeg) then ((X5_lose N k1 v4 σ).bind fun r8 => (X0_passHour_j93 N k1 (fun v2 v3 v4 σ => X0_passHour_l5 N k1 k136 n v2 v3 v4 σ) v2 (v3 + r8.1) v4 r8.2)) else (if inb v4 8 = true then if inb v4 8 = true then bnS (wi σ (k1 + 2) v4.toNatClampNeg ((gi σ (k1 + 2) v4.toNatClampNeg) + 1)) fun σ22 => X0_passHour_j93 N k1 (fun v2 v3 v4 σ => X0_passHour_l5 N k1 k136 n v2 v3 v4 σ) v2 v3 v4 σ22 else none else none) else none)) else (X0_passHour_l5 N k1 k136 n v2 v3 (v4 + 1) σ)))
set_option maxRecDepth 100000 in
set_option maxHeartbeats 4000000 in
theorem X0_passHour_l5_ok {E : Ev} {k1 : Nat} (hk1 : StAt SH0 k1) {N : Nat} {k136 : Int32 → Sg → Option (Int32 × Sg)}  (hk136 : ∀ (v3 : Int32) (σ : Sg) (r : Int32 × Sg), k136 v3 σ = some r → Gp E RX0 cX0_passHour (some .int) 5 (2) SH0 r.2 (some (.int r.1)) σ 136 [(1, .ref k1), (3, .int v3)] []) : ∀ (n : Nat) (v2 : Int32) (v3 : Int32) (v4 : Int32) (σ : Sg) (r : Int32 × Sg), X0_passHour_l5 N k1 k136 n v2 v3 v4 σ = some r → Gp E RX0 cX0_passHour (some .int) 5 (2) SH0 r.2 (some (.int r.1)) σ 5 [(0, .ref 5), (1, .ref k1), (2, .int v2), (3, .int v3), (4, .int v4)] [] := by
  intro n
  induction n with
  | zero => intro v2 v3 v4 σ r h; cases h
  | succ n ih =>
    intro v2 v3 v4 σ r h Z C hE
    unfold X0_passHour_l5 at h
    refine r_iload (pc' := 7) C dX0_passHour_5 rfl 4 rfl ?_
    refine r_aload_n (pc' := 8) C dX0_passHour_7 rfl 0 rfl ?_
    refine r_getI (pc' := 11) C flX0_41 sh_5 rfl dX0_passHour_8 rfl ?_
    refine r_icmp_ge (tgt := 136) (pc' := 14) C dX0_passHour_11 rfl rfl (fun c1 => ?_) (fun c1 => ?_)
    · rw [if_pos c1] at h
      refine r_sub [1, 3] rfl ?_
      exact hk136 _ _ _ h Z C hE
    · rw [if_neg c1] at h
      refine r_aload_n (pc' := 15) C dX0_passHour_14 rfl 1 rfl ?_
      refine r_iload (pc' := 17) C dX0_passHour_15 rfl 4 rfl ?_
      obtain ⟨r2, e3, h⟩ := bd h
      refine r_cV1 (pc' := 20) C (X5_isGone_ok hk1 e3) mlX0_80 ceX5_isGone cvX5_isGone (st0 hk1) rfl rfl rfl (Nat.le_of_ble_eq_true rfl) rfl (Nat.le_of_ble_eq_true rfl) dX0_passHour_17 rfl (kk := ?_)
      refine r_if_eq (tgt := 26) (pc' := 23) C dX0_passHour_20 rfl rfl (fun c4 => ?_) (fun c4 => ?_)
      · rw [if_pos c4] at h
        refine r_iload_n (pc' := 27) C dX0_passHour_26 rfl 2 rfl ?_
        refine r_iload (pc' := 29) C dX0_passHour_27 rfl 4 rfl ?_
        refine r_ishr (pc' := 30) C dX0_passHour_29 rfl ?_
        refine r_iconst (pc' := 31) C dX0_passHour_30 rfl kc_1 ?_
        refine r_iand (pc' := 32) C dX0_passHour_31 rfl ?_
        refine r_if_ne (tgt := 58) (pc' := 35) C dX0_passHour_32 rfl rfl (fun c5 => ?_) (fun c5 => ?_)
        · rw [if_neg c5] at h
          refine r_aload_n (pc' := 59) C dX0_passHour_58 rfl 1 rfl ?_
          refine r_getR (pc' := 62) C flX0_95 (st0 hk1) rfl dX0_passHour_59 rfl ?_
          refine r_iload (pc' := 64) C dX0_passHour_62 rfl 4 rfl ?_
          obtain ⟨q6, h⟩ := ck h
          refine r_iald (pc' := 65) C (st2 hk1) (vin q6) dX0_passHour_64 rfl ?_
          refine r_bipush (pc' := 67) C dX0_passHour_65 rfl kb_9 ?_
          refine r_icmp_ge (tgt := 84) (pc' := 70) C dX0_passHour_67 rfl rfl (fun c7 => ?_) (fun c7 => ?_)
          · rw [if_pos c7] at h
            refine r_iload_n (pc' := 85) C dX0_passHour_84 rfl 3 rfl ?_
            refine r_aload_n (pc' := 86) C dX0_passHour_85 rfl 1 rfl ?_
            refine r_iload (pc' := 88) C dX0_passHour_86 rfl 4 rfl ?_
            obtain ⟨r8, e9, h⟩ := bd h
            refine r_cV1 (pc' := 91) C (X5_lose_ok hk1 e9) mlX0_140 ceX5_lose cvX5_lose (st0 hk1) rfl rfl rfl (Nat.le_of_ble_eq_true rfl) rfl (Nat.le_of_ble_eq_true rfl) dX0_passHour_88 rfl (kk := ?_)
            refine r_iadd (pc' := 92) C dX0_passHour_91 rfl ?_
            refine r_istore_n (pc' := 93) (lv2 := [(3, .int (v3 + r8.1)), (0, .ref 5), (1, .ref k1), (2, .int v2), (4, .int v4)]) C dX0_passHour_92 rfl rfl (Nat.le_of_ble_eq_true rfl) rfl ?_
            refine r_sub [1, 2, 3, 0, 4] rfl ?_
            exact X0_passHour_j93_ok hk1 ih h Z C hE
          · rw [if_neg c7] at h
            refine r_aload_n (pc' := 71) C dX0_passHour_70 rfl 1 rfl ?_
            refine r_getR (pc' := 74) C flX0_95 (st0 hk1) rfl dX0_passHour_71 rfl ?_
            refine r_iload (pc' := 76) C dX0_passHour_74 rfl 4 rfl ?_
            refine r_dup2 (pc' := 77) C dX0_passHour_76 rfl rfl rfl ?_
            obtain ⟨q20, h⟩ := ck h
            refine r_iald (pc' := 78) C (st2 hk1) (vin q20) dX0_passHour_77 rfl ?_
            refine r_iconst (pc' := 79) C dX0_passHour_78 rfl kc_1 ?_
            refine r_iadd (pc' := 80) C dX0_passHour_79 rfl ?_
            obtain ⟨q21, h⟩ := ck h
            obtain ⟨σ22, e23, h⟩ := bs h
            refine r_iast (pc' := 81) (σ1 := σ22) C (st2 hk1) (vin q21) dX0_passHour_80 rfl e23 ?_
            refine r_goto (tgt := 93) C dX0_passHour_81 rfl ?_
            exact X0_passHour_j93_ok hk1 ih h Z C hE
        · rw [if_pos c5] at h
          refine r_aload_n (pc' := 36) C dX0_passHour_35 rfl 1 rfl ?_
          refine r_getR (pc' := 39) C flX0_95 (st0 hk1) rfl dX0_passHour_36 rfl ?_
          refine r_iload (pc' := 41) C dX0_passHour_39 rfl 4 rfl ?_
          refine r_iconst (pc' := 42) C dX0_passHour_41 rfl kc_0 ?_
          refine r_aload_n (pc' := 43) C dX0_passHour_42 rfl 1 rfl ?_
          refine r_getR (pc' := 46) C flX0_95 (st0 hk1) rfl dX0_passHour_43 rfl ?_
          refine r_iload (pc' := 48) C dX0_passHour_46 rfl 4 rfl ?_
          obtain ⟨q24, h⟩ := ck h
          refine r_iald (pc' := 49) C (st2 hk1) (vin q24) dX0_passHour_48 rfl ?_
          refine r_iconst (pc' := 50) C dX0_passHour_49 rfl kc_1 ?_
          refine r_isub (pc' := 51) C dX0_passHour_50 rfl ?_
          obtain ⟨r25, e26, h⟩ := bd h
          refine r_cS1 (pc' := 54) C (J9_max_7cf53_ok  e26) mlX0_59 ceJ9_max_7cf53 csJ9_max_7cf53 rfl (Nat.le_of_ble_eq_true rfl) rfl (Nat.le_of_ble_eq_true rfl) dX0_passHour_51 rfl (kk := ?_)
          obtain ⟨q27, h⟩ := ck h
          obtain ⟨σ28, e29, h⟩ := bs h
          refine r_iast (pc' := 55) (σ1 := σ28) C (st2 hk1) (vin q27) dX0_passHour_54 rfl e29 ?_
          refine r_goto (tgt := 93) C dX0_passHour_55 rfl ?_
          exact X0_passHour_j93_ok hk1 ih h Z C hE
      · rw [if_neg c4] at h
        refine r_goto (tgt := 130) C dX0_passHour_23 rfl ?_
        refine r_iinc (pc' := 133) (v := v4 + 1) (lv2 := [(4, .int (v4 + 1)), (0, .ref 5), (1, .ref k1), (2, .int v2), (3, .int v3)]) C dX0_passHour_130 rfl 4 rfl rfl (Nat.le_of_ble_eq_true rfl) rfl ?_
        refine r_goto (tgt := 5) C dX0_passHour_133 rfl ?_
        refine r_sub [1, 2, 3, 4, 0] rfl ?_
        exact ih _ _ _ _ _ h Z C hE
def X0_passHour_j136 (N : Nat) (k1 : Nat)  (v3 : Int32) (σ : Sg) : Option (Int32 × Sg) :=
  bnS (wi σ k1 8 ((gi σ k1 8) + 1)) fun σ30 => some (v3, σ30)
set_option maxRecDepth 100000 in
set_option maxHeartbeats 4000000 in
theorem X0_passHour_j136_ok {E : Ev} {k1 : Nat} (hk1 : StAt SH0 k1) {N : Nat}    {v3 : Int32} {σ : Sg} {r : Int32 × Sg} (h : X0_passHour_j136 N k1  v3 σ = some r) : Gp E RX0 cX0_passHour (some .int) 5 (2) SH0 r.2 (some (.int r.1)) σ 136 [(1, .ref k1), (3, .int v3)] [] := by
  intro Z C hE
  unfold X0_passHour_j136 at h
  refine r_aload_n (pc' := 137) C dX0_passHour_136 rfl 0 rfl ?_
  refine r_dup (pc' := 138) C dX0_passHour_137 rfl rfl ?_
  refine r_getI (pc' := 141) C flX0_74 (st0 hk1) rfl dX0_passHour_138 rfl ?_
  refine r_iconst (pc' := 142) C dX0_passHour_141 rfl kc_1 ?_
  refine r_iadd (pc' := 143) C dX0_passHour_142 rfl ?_
  obtain ⟨σ30, e31, h⟩ := bs h
  refine r_putI (pc' := 146) (σ1 := σ30) C fpX0_74 (st0 hk1) rfl rfl rfl dX0_passHour_143 rfl e31 ?_
  refine r_iload_n (pc' := 147) C dX0_passHour_146 rfl 1 rfl ?_
  have h := Option.some.inj h
  subst h
  exact r_ret C rfl dX0_passHour_147 hE
def X0_passHour (N : Nat) (k1 : Nat) (v2 : Int32) (σ : Sg) : Option (Int32 × Sg) :=
  X0_passHour_l5 N k1 (fun v3 σ => X0_passHour_j136 N k1 v3 σ) N v2 0 0 σ
set_option maxRecDepth 100000 in
set_option maxHeartbeats 4000000 in
theorem X0_passHour_ok {E : Ev} {k1 : Nat} (hk1 : StAt SH0 k1) {N : Nat} {v2 : Int32} {σ : Sg} {r : Int32 × Sg} (h : X0_passHour N k1 v2 σ = some r) : Cm E (2) yX0_passHour cX0_passHour 5 (some .int) [.ref 5, .ref k1, .int v2] SH0 SH0 σ r.2 (some (.int r.1)) 0 0 := by
  refine Cm.intro (by decide +kernel) (Nat.le_of_ble_eq_true rfl) (fun _ h => by obtain ⟨_, _, _, _, _, _, h⟩ := h; exact h) (fun Z C hE => ?_)
  show Wm E Z 0 0 SH0 σ 0 [(0, .ref 5), (1, .ref k1), (2, .int v2)] []
  unfold X0_passHour at h
  refine r_iconst (pc' := 1) C dX0_passHour_0 rfl kc_0 ?_
  refine r_istore_n (pc' := 2) (lv2 := [(3, .int 0), (0, .ref 5), (1, .ref k1), (2, .int v2)]) C dX0_passHour_1 rfl rfl (Nat.le_of_ble_eq_true rfl) rfl ?_
  refine r_iconst (pc' := 3) C dX0_passHour_2 rfl kc_0 ?_
  refine r_istore (pc' := 5) (lv2 := [(4, .int 0), (3, .int 0), (0, .ref 5), (1, .ref k1), (2, .int v2)]) C dX0_passHour_3 rfl (Nat.le_of_ble_eq_true rfl) rfl ?_
  refine r_sub [2, 3, 4, 1, 0] rfl ?_
  exact X0_passHour_l5_ok hk1 (fun _ _ _ h Z C hE => by exact X0_passHour_j136_ok hk1 h Z C hE) N _ _ _ _ _ h Z C hE
