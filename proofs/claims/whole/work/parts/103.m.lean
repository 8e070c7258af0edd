/-! BorrowedWeight$Land.passHours(LBorrowedWeight$State;I)I -/
def X0_passHours_l5 (N : Nat) (k1 : Nat)   : Nat → Int32 → Int32 → Int32 → Sg → Option (Int32 × Sg)
  | 0, _, _, _, _ => none
  | n + 1, v2, v3, v4, σ =>
    if v2 ≤ v4 then (some (v3, σ)) else (if isRule ((gi σ 5 2).toNatClampNeg) = true then (X0_floating N k1 ((gi σ 5 2).toNatClampNeg) σ).bind fun r3 => ((X0_passHour N k1 r3.1 r3.2).bind fun r5 => (X0_passHours_l5 N k1 n v2 (v3 + r5.1) (v4 + 1) r5.2)) else none)
set_option maxRecDepth 100000 in
set_option maxHeartbeats 4000000 in
theorem X0_passHours_l5_ok {E : Ev} {k1 : Nat} (hk1 : StAt SH0 k1) {N : Nat}    : ∀ (n : Nat) (v2 : Int32) (v3 : Int32) (v4 : Int32) (σ : Sg) (r : Int32 × Sg), X0_passHours_l5 N k1 n v2 v3 v4 σ = some r → Gp E RX0 cX0_passHours (some .int) 5 (4) SH0 r.2 (some (.int r.1)) σ 5 [(0, .ref 5), (1, .ref k1), (2, .int v2), (3, .int v3), (4, .int v4)] [] := by
  intro n
  induction n with
  | zero => intro v2 v3 v4 σ r h; cases h
  | succ n ih =>
    intro v2 v3 v4 σ r h Z C hE
    unfold X0_passHours_l5 at h
    refine r_iload (pc' := 7) C dX0_passHours_5 rfl 4 rfl ?_
    refine r_iload_n (pc' := 8) C dX0_passHours_7 rfl 2 rfl ?_
    refine r_icmp_ge (tgt := 34) (pc' := 11) C dX0_passHours_8 rfl rfl (fun c1 => ?_) (fun c1 => ?_)
    · rw [if_pos c1] at h
      refine r_iload_n (pc' := 35) C dX0_passHours_34 rfl 3 rfl ?_
      have h := Option.some.inj h
      subst h
      exact r_ret C rfl dX0_passHours_35 hE
    · rw [if_neg c1] at h
      refine r_iload_n (pc' := 12) C dX0_passHours_11 rfl 3 rfl ?_
      refine r_aload_n (pc' := 13) C dX0_passHours_12 rfl 0 rfl ?_
      refine r_aload_n (pc' := 14) C dX0_passHours_13 rfl 1 rfl ?_
      refine r_aload_n (pc' := 15) C dX0_passHours_14 rfl 0 rfl ?_
      refine r_aload_n (pc' := 16) C dX0_passHours_15 rfl 1 rfl ?_
      refine r_aload_n (pc' := 17) C dX0_passHours_16 rfl 0 rfl ?_
      refine r_getD (pc' := 20) C flX0_18 sh_5 rfl dX0_passHours_17 rfl ?_
      obtain ⟨q2, h⟩ := ck h
      obtain ⟨r3, e4, h⟩ := bd h
      refine r_cV1 (pc' := 23) C (X0_floating_ok hk1 (ruof q2) e4) mlX0_133 ceX0_floating cvX0_floating sh_5 rfl rfl rfl (Nat.le_of_ble_eq_true rfl) rfl (Nat.le_of_ble_eq_true rfl) dX0_passHours_20 rfl (kk := ?_)
      obtain ⟨r5, e6, h⟩ := bd h
      refine r_cV1 (pc' := 26) C (X0_passHour_ok hk1 e6) mlX0_137 ceX0_passHour cvX0_passHour sh_5 rfl rfl rfl (Nat.le_of_ble_eq_true rfl) rfl (Nat.le_of_ble_eq_true rfl) dX0_passHours_23 rfl (kk := ?_)
      refine r_iadd (pc' := 27) C dX0_passHours_26 rfl ?_
      refine r_istore_n (pc' := 28) (lv2 := [(3, .int (v3 + r5.1)), (0, .ref 5), (1, .ref k1), (2, .int v2), (4, .int v4)]) C dX0_passHours_27 rfl rfl (Nat.le_of_ble_eq_true rfl) rfl ?_
      refine r_iinc (pc' := 31) (v := v4 + 1) (lv2 := [(4, .int (v4 + 1)), (3, .int (v3 + r5.1)), (0, .ref 5), (1, .ref k1), (2, .int v2)]) C dX0_passHours_28 rfl 4 rfl rfl (Nat.le_of_ble_eq_true rfl) rfl ?_
      refine r_goto (tgt := 5) C dX0_passHours_31 rfl ?_
      refine r_sub [2, 3, 4, 1, 0] rfl ?_
      exact ih _ _ _ _ _ h Z C hE
def X0_passHours (N : Nat) (k1 : Nat) (v2 : Int32) (σ : Sg) : Option (Int32 × Sg) :=
  X0_passHours_l5 N k1 N v2 0 0 σ
set_option maxRecDepth 100000 in
set_option maxHeartbeats 4000000 in
theorem X0_passHours_ok {E : Ev} {k1 : Nat} (hk1 : StAt SH0 k1) {N : Nat} {v2 : Int32} {σ : Sg} {r : Int32 × Sg} (h : X0_passHours N k1 v2 σ = some r) : Cm E (4) yX0_passHours cX0_passHours 5 (some .int) [.ref 5, .ref k1, .int v2] SH0 SH0 σ r.2 (some (.int r.1)) 0 0 := by
  refine Cm.intro (by decide +kernel) (Nat.le_of_ble_eq_true rfl) (fun _ h => by obtain ⟨_, _, _, _, _, _, h⟩ := h; exact h) (fun Z C hE => ?_)
  show Wm E Z 0 0 SH0 σ 0 [(0, .ref 5), (1, .ref k1), (2, .int v2)] []
  unfold X0_passHours at h
  refine r_iconst (pc' := 1) C dX0_passHours_0 rfl kc_0 ?_
  refine r_istore_n (pc' := 2) (lv2 := [(3, .int 0), (0, .ref 5), (1, .ref k1), (2, .int v2)]) C dX0_passHours_1 rfl rfl (Nat.le_of_ble_eq_true rfl) rfl ?_
  refine r_iconst (pc' := 3) C dX0_passHours_2 rfl kc_0 ?_
  refine r_istore (pc' := 5) (lv2 := [(4, .int 0), (3, .int 0), (0, .ref 5), (1, .ref k1), (2, .int v2)]) C dX0_passHours_3 rfl (Nat.le_of_ble_eq_true rfl) rfl ?_
  refine r_sub [2, 3, 4, 1, 0] rfl ?_
  exact X0_passHours_l5_ok hk1 N _ _ _ _ _ h Z C hE

/-! BorrowedWeight$Row.clear()V -/
def X2_clear (N : Nat)   (σ : Sg) : Option (Sg) :=
  bnS (wi σ 3 1 0) fun σ1 => some σ1
set_option maxRecDepth 100000 in
set_option maxHeartbeats 4000000 in
theorem X2_clear_ok {E : Ev}  {N : Nat}  {σ : Sg} {r : Sg} (h : X2_clear N   σ = some r) : Cm E (0) yX2_clear cX2_clear 1 none [.ref 3] SH0 SH0 σ r (none) 0 0 := by
  refine Cm.intro (by decide +kernel) (Nat.le_of_ble_eq_true rfl) (fun _ h => by obtain ⟨_, _, _, _, _, _, h⟩ := h; exact h) (fun Z C hE => ?_)
  show Wm E Z 0 0 SH0 σ 0 [(0, .ref 3)] []
  unfold X2_clear at h
  refine r_aload_n (pc' := 1) C dX2_clear_0 rfl 0 rfl ?_
  refine r_iconst (pc' := 2) C dX2_clear_1 rfl kc_0 ?_
  obtain ⟨σ1, e2, h⟩ := bs h
  refine r_putI (pc' := 5) (σ1 := σ1) C fpX2_15 sh_3 rfl rfl rfl dX2_clear_2 rfl e2 ?_
  have h := Option.some.inj h
  subst h
  exact r_vret C dX2_clear_5 hE

/-! BorrowedWeight$Row.add(J)V -/
def X2_add (N : Nat)  (v1 : Int64) (σ : Sg) : Option (Sg) :=
  if 10 ≤ (gi σ 3 1) then (some σ) else (if inb (gi σ 3 1) 10 = true then bnS (wl σ 4 (gi σ 3 1).toNatClampNeg v1) fun σ3 => bnS (wi σ3 3 1 ((gi σ3 3 1) + 1)) fun σ5 => some σ5 else none)
set_option maxRecDepth 100000 in
set_option maxHeartbeats 4000000 in
theorem X2_add_ok {E : Ev}  {N : Nat} {v1 : Int64} {σ : Sg} {r : Sg} (h : X2_add N  v1 σ = some r) : Cm E (0) yX2_add cX2_add 3 none [.ref 3, .long v1] SH0 SH0 σ r (none) 0 0 := by
  refine Cm.intro (by decide +kernel) (Nat.le_of_ble_eq_true rfl) (fun _ h => by obtain ⟨_, _, _, _, _, _, h⟩ := h; exact h) (fun Z C hE => ?_)
  show Wm E Z 0 0 SH0 σ 0 [(0, .ref 3), (1, .long v1)] []
  unfold X2_add at h
  refine r_aload_n (pc' := 1) C dX2_add_0 rfl 0 rfl ?_
  refine r_getI (pc' := 4) C flX2_15 sh_3 rfl dX2_add_1 rfl ?_
  refine r_bipush (pc' := 6) C dX2_add_4 rfl kb_10 ?_
  refine r_icmp_ge (tgt := 29) (pc' := 9) C dX2_add_6 rfl rfl (fun c1 => ?_) (fun c1 => ?_)
  · rw [if_pos c1] at h
    have h := Option.some.inj h
    subst h
    exact r_vret C dX2_add_29 hE
  · rw [if_neg c1] at h
    refine r_aload_n (pc' := 10) C dX2_add_9 rfl 0 rfl ?_
    refine r_getR (pc' := 13) C flX2_11 sh_3 rfl dX2_add_10 rfl ?_
    refine r_aload_n (pc' := 14) C dX2_add_13 rfl 0 rfl ?_
    refine r_getI (pc' := 17) C flX2_15 sh_3 rfl dX2_add_14 rfl ?_
    refine r_lload_n (pc' := 18) C dX2_add_17 rfl 1 rfl ?_
    obtain ⟨q2, h⟩ := ck h
    obtain ⟨σ3, e4, h⟩ := bs h
    refine r_last (pc' := 19) (σ1 := σ3) C sh_4 (vin q2) dX2_add_18 rfl e4 ?_
    refine r_aload_n (pc' := 20) C dX2_add_19 rfl 0 rfl ?_
    refine r_dup (pc' := 21) C dX2_add_20 rfl rfl ?_
    refine r_getI (pc' := 24) C flX2_15 sh_3 rfl dX2_add_21 rfl ?_
    refine r_iconst (pc' := 25) C dX2_add_24 rfl kc_1 ?_
    refine r_iadd (pc' := 26) C dX2_add_25 rfl ?_
    obtain ⟨σ5, e6, h⟩ := bs h
    refine r_putI (pc' := 29) (σ1 := σ5) C fpX2_15 sh_3 rfl rfl rfl dX2_add_26 rfl e6 ?_
    have h := Option.some.inj h
    subst h
    exact r_vret C dX2_add_29 hE

/-! BorrowedWeight$Row.tell(JJ)V -/
def X2_tell_ (N : Nat)  (v1 : Int64) (v3 : Int64) (σ : Sg) : Option (Sg) :=
  (X2_clear N σ).bind fun r1 => ((X2_add N v1 r1).bind fun r3 => ((X2_add N v3 r3).bind fun r5 => (some r5)))
set_option maxRecDepth 100000 in
set_option maxHeartbeats 4000000 in
theorem X2_tell__ok {E : Ev}  {N : Nat} {v1 : Int64} {v3 : Int64} {σ : Sg} {r : Sg} (h : X2_tell_ N  v1 v3 σ = some r) : Cm E (1) yX2_tell_ cX2_tell_ 5 none [.ref 3, .long v1, .long v3] SH0 SH0 σ r (none) 0 0 := by
  refine Cm.intro (by decide +kernel) (Nat.le_of_ble_eq_true rfl) (fun _ h => by obtain ⟨_, _, _, _, _, _, h⟩ := h; exact h) (fun Z C hE => ?_)
  show Wm E Z 0 0 SH0 σ 0 [(0, .ref 3), (1, .long v1), (3, .long v3)] []
  unfold X2_tell_ at h
  refine r_aload_n (pc' := 1) C dX2_tell__0 rfl 0 rfl ?_
  obtain ⟨r1, e2, h⟩ := bd h
  refine r_cV0 (pc' := 4) C (X2_clear_ok  e2) mlX2_19 ceX2_clear cvX2_clear sh_3 rfl rfl rfl (Nat.le_of_ble_eq_true rfl) rfl (Nat.le_of_ble_eq_true rfl) dX2_tell__1 rfl (kk := ?_)
  refine r_aload_n (pc' := 5) C dX2_tell__4 rfl 0 rfl ?_
  refine r_lload_n (pc' := 6) C dX2_tell__5 rfl 1 rfl ?_
  obtain ⟨r3, e4, h⟩ := bd h
  refine r_cV0 (pc' := 9) C (X2_add_ok  e4) mlX2_22 ceX2_add cvX2_add sh_3 rfl rfl rfl (Nat.le_of_ble_eq_true rfl) rfl (Nat.le_of_ble_eq_true rfl) dX2_tell__6 rfl (kk := ?_)
  refine r_aload_n (pc' := 10) C dX2_tell__9 rfl 0 rfl ?_
  refine r_lload_n (pc' := 11) C dX2_tell__10 rfl 2 rfl ?_
  obtain ⟨r5, e6, h⟩ := bd h
  refine r_cV0 (pc' := 14) C (X2_add_ok  e6) mlX2_22 ceX2_add cvX2_add sh_3 rfl rfl rfl (Nat.le_of_ble_eq_true rfl) rfl (Nat.le_of_ble_eq_true rfl) dX2_tell__11 rfl (kk := ?_)
  have h := Option.some.inj h
  subst h
  exact r_vret C dX2_tell__14 hE

/-! BorrowedWeight.hours(I)I -/
def X8_hours (N : Nat)  (v1 : Int32) (σ : Sg) : Option (Int32 × Sg) :=
  if v1 < 0 then (some ((-1), σ)) else (if v1 ≤ 60 then ((X1_draw N 19 σ).bind fun r3 => ((X1_commit N r3).bind fun r5 => ((J6_bitCount_0f7a4 N (gi r5 19 4) r5).bind fun r7 => ((X0_passHours N 19 v1 r5).bind fun r9 => ((J6_bitCount_0f7a4 N (gi r9.2 19 4) r9.2).bind fun r11 => ((X2_tell_ N ((r11 - r7).toInt64) r9.1.toInt64 r9.2).bind fun r13 => ((X0_present N 19 r13).bind fun r15 => (some (r15, r13))))))))) else (some ((-1), σ)))
set_option maxRecDepth 100000 in
set_option maxHeartbeats 4000000 in
theorem X8_hours_ok {E : Ev}  {N : Nat} {v1 : Int32} {σ : Sg} {r : Int32 × Sg} (h : X8_hours N  v1 σ = some r) : Cm E (5) yX8_hours cX8_hours 4 (some .int) [.ref 0, .int v1] SH0 SH0 σ r.2 (some (.int r.1)) 0 0 := by
  refine Cm.intro (by decide +kernel) (Nat.le_of_ble_eq_true rfl) (fun _ h => by obtain ⟨_, _, _, _, _, _, h⟩ := h; exact h) (fun Z C hE => ?_)
  show Wm E Z 0 0 SH0 σ 0 [(0, .ref 0), (1, .int v1)] []
  unfold X8_hours at h
  refine r_iload_n (pc' := 1) C dX8_hours_0 rfl 1 rfl ?_
  refine r_if_lt (tgt := 10) (pc' := 4) C dX8_hours_1 rfl rfl (fun c1 => ?_) (fun c1 => ?_)
  · rw [if_pos c1] at h
    refine r_iconst (pc' := 11) C dX8_hours_10 rfl kc_m1 ?_
    have h := Option.some.inj h
    subst h
    exact r_ret C rfl dX8_hours_11 hE
  · rw [if_neg c1] at h
    refine r_iload_n (pc' := 5) C dX8_hours_4 rfl 1 rfl ?_
    refine r_bipush (pc' := 7) C dX8_hours_5 rfl kb_60 ?_
    refine r_icmp_le (tgt := 12) (pc' := 10) C dX8_hours_7 rfl rfl (fun c2 => ?_) (fun c2 => ?_)
    · rw [if_pos c2] at h
      refine r_aload_n (pc' := 13) C dX8_hours_12 rfl 0 rfl ?_
      refine r_getR (pc' := 16) C flX8_43 sh_0 rfl dX8_hours_13 rfl ?_
      refine r_aload_n (pc' := 17) C dX8_hours_16 rfl 0 rfl ?_
      refine r_getR (pc' := 20) C flX8_33 sh_0 rfl dX8_hours_17 rfl ?_
      obtain ⟨r3, e4, h⟩ := bd h
      refine r_cV0 (pc' := 23) C (X1_draw_ok stc_19 e4) mlX8_115 ceX1_draw cvX1_draw sh_29 rfl rfl rfl (Nat.le_of_ble_eq_true rfl) rfl (Nat.le_of_ble_eq_true rfl) dX8_hours_20 rfl (kk := ?_)
      refine r_aload_n (pc' := 24) C dX8_hours_23 rfl 0 rfl ?_
      refine r_getR (pc' := 27) C flX8_43 sh_0 rfl dX8_hours_24 rfl ?_
      obtain ⟨r5, e6, h⟩ := bd h
      refine r_cV0 (pc' := 30) C (X1_commit_ok  e6) mlX8_122 ceX1_commit cvX1_commit sh_29 rfl rfl rfl (Nat.le_of_ble_eq_true rfl) rfl (Nat.le_of_ble_eq_true rfl) dX8_hours_27 rfl (kk := ?_)
      refine r_aload_n (pc' := 31) C dX8_hours_30 rfl 0 rfl ?_
      refine r_getR (pc' := 34) C flX8_33 sh_0 rfl dX8_hours_31 rfl ?_
      refine r_getI (pc' := 37) C flX8_186 sh_19 rfl dX8_hours_34 rfl ?_
      obtain ⟨r7, e8, h⟩ := bd h
      refine r_cS1 (pc' := 40) C (J6_bitCount_0f7a4_ok  e8) mlX8_189 ceJ6_bitCount_0f7a4 csJ6_bitCount_0f7a4 rfl (Nat.le_of_ble_eq_true rfl) rfl (Nat.le_of_ble_eq_true rfl) dX8_hours_37 rfl (kk := ?_)
      refine r_istore_n (pc' := 41) (lv2 := [(2, .int r7), (0, .ref 0), (1, .int v1)]) C dX8_hours_40 rfl rfl (Nat.le_of_ble_eq_true rfl) rfl ?_
      refine r_aload_n (pc' := 42) C dX8_hours_41 rfl 1 rfl ?_
      refine r_getR (pc' := 45) C flX8_26 sh_0 rfl dX8_hours_42 rfl ?_
      refine r_aload_n (pc' := 46) C dX8_hours_45 rfl 1 rfl ?_
      refine r_getR (pc' := 49) C flX8_33 sh_0 rfl dX8_hours_46 rfl ?_
      refine r_iload_n (pc' := 50) C dX8_hours_49 rfl 2 rfl ?_
      obtain ⟨r9, e10, h⟩ := bd h
      refine r_cV1 (pc' := 53) C (X0_passHours_ok stc_19 e10) mlX8_194 ceX0_passHours cvX0_passHours sh_5 rfl rfl rfl (Nat.le_of_ble_eq_true rfl) rfl (Nat.le_of_ble_eq_true rfl) dX8_hours_50 rfl (kk := ?_)
      refine r_istore_n (pc' := 54) (lv2 := [(3, .int r9.1), (2, .int r7), (0, .ref 0), (1, .int v1)]) C dX8_hours_53 rfl rfl (Nat.le_of_ble_eq_true rfl) rfl ?_
      refine r_aload_n (pc' := 55) C dX8_hours_54 rfl 2 rfl ?_
      refine r_getR (pc' := 58) C flX8_19 sh_0 rfl dX8_hours_55 rfl ?_
      refine r_aload_n (pc' := 59) C dX8_hours_58 rfl 2 rfl ?_
      refine r_getR (pc' := 62) C flX8_33 sh_0 rfl dX8_hours_59 rfl ?_
      refine r_getI (pc' := 65) C flX8_186 sh_19 rfl dX8_hours_62 rfl ?_
      obtain ⟨r11, e12, h⟩ := bd h
      refine r_cS1 (pc' := 68) C (J6_bitCount_0f7a4_ok  e12) mlX8_189 ceJ6_bitCount_0f7a4 csJ6_bitCount_0f7a4 rfl (Nat.le_of_ble_eq_true rfl) rfl (Nat.le_of_ble_eq_true rfl) dX8_hours_65 rfl (kk := ?_)
      refine r_iload_n (pc' := 69) C dX8_hours_68 rfl 1 rfl ?_
      refine r_isub (pc' := 70) C dX8_hours_69 rfl ?_
      refine r_i2l (pc' := 71) C dX8_hours_70 rfl rfl ?_
      refine r_iload_n (pc' := 72) C dX8_hours_71 rfl 0 rfl ?_
      refine r_i2l (pc' := 73) C dX8_hours_72 rfl rfl ?_
      obtain ⟨r13, e14, h⟩ := bd h
      refine r_cV0 (pc' := 76) C (X2_tell__ok  e14) mlX8_198 ceX2_tell_ cvX2_tell_ sh_3 rfl rfl rfl (Nat.le_of_ble_eq_true rfl) rfl (Nat.le_of_ble_eq_true rfl) dX8_hours_73 rfl (kk := ?_)
      refine r_aload_n (pc' := 77) C dX8_hours_76 rfl 2 rfl ?_
      refine r_getR (pc' := 80) C flX8_26 sh_0 rfl dX8_hours_77 rfl ?_
      refine r_aload_n (pc' := 81) C dX8_hours_80 rfl 2 rfl ?_
      refine r_getR (pc' := 84) C flX8_33 sh_0 rfl dX8_hours_81 rfl ?_
      obtain ⟨r15, e16, h⟩ := bd h
      refine r_cV1 (pc' := 87) C (X0_present_ok stc_19 e16) mlX8_202 ceX0_present cvX0_present sh_5 rfl rfl rfl (Nat.le_of_ble_eq_true rfl) rfl (Nat.le_of_ble_eq_true rfl) dX8_hours_84 rfl (kk := ?_)
      have h := Option.some.inj h
      subst h
      exact r_ret C rfl dX8_hours_87 hE
    · rw [if_neg c2] at h
      refine r_iconst (pc' := 11) C dX8_hours_10 rfl kc_m1 ?_
      have h := Option.some.inj h
      subst h
      exact r_ret C rfl dX8_hours_11 hE

/-! BorrowedWeight$Land.lend(LBorrowedWeight$State;II)I -/
def X0_lend (N : Nat) (k1 : Nat) (v2 : Int32) (v3 : Int32) (σ : Sg) : Option (Int32 × Sg) :=
  (X0_isThing N v2 σ).bind fun r1 => (if r1 = 0 then (some ((-1), σ)) else (if v3 < 1 then (some ((-1), σ)) else (if v3 ≤ 9 then ((X5_isGone N k1 v2 σ).bind fun r6 => (if r6 = 0 then (if v3 ≤ (gi σ k1 5) then (if inb v2 8 = true then if ((gi σ (k1 + 1) v2.toNatClampNeg) + v3) ≤ 9 then (bnS (wi σ k1 5 ((gi σ k1 5) - v3)) fun σ12 => if inb v2 8 = true then if inb v2 8 = true then bnS (wi σ12 (k1 + 1) v2.toNatClampNeg ((gi σ12 (k1 + 1) v2.toNatClampNeg) + v3)) fun σ16 => if inb v2 8 = true then some (gi σ16 (k1 + 1) v2.toNatClampNeg, σ16) else none else none else none) else (some ((-4), σ)) else none) else (some ((-3), σ))) else (some ((-2), σ)))) else (some ((-1), σ)))))
set_option maxRecDepth 100000 in
set_option maxHeartbeats 4000000 in
theorem X0_lend_ok {E : Ev} {k1 : Nat} (hk1 : StAt SH0 k1) {N : Nat} {v2 : Int32} {v3 : Int32} {σ : Sg} {r : Int32 × Sg} (h : X0_lend N k1 v2 v3 σ = some r) : Cm E (1) yX0_lend cX0_lend 4 (some .int) [.ref 5, .ref k1, .int v2, .int v3] SH0 SH0 σ r.2 (some (.int r.1)) 0 0 := by
  refine Cm.intro (by decide +kernel) (Nat.le_of_ble_eq_true rfl) (fun _ h => by obtain ⟨_, _, _, _, _, _, h⟩ := h; exact h) (fun Z C hE => ?_)
  show Wm E Z 0 0 SH0 σ 0 [(0, .ref 5), (1, .ref k1), (2, .int v2), (3, .int v3)] []
  unfold X0_lend at h
  refine r_aload_n (pc' := 1) C dX0_lend_0 rfl 0 rfl ?_
  refine r_iload_n (pc' := 2) C dX0_lend_1 rfl 2 rfl ?_
  obtain ⟨r1, e2, h⟩ := bd h
  refine r_cV1 (pc' := 5) C (X0_isThing_ok  e2) mlX0_143 ceX0_isThing cvX0_isThing sh_5 rfl rfl rfl (Nat.le_of_ble_eq_true rfl) rfl (Nat.le_of_ble_eq_true rfl) dX0_lend_2 rfl (kk := ?_)
  refine r_if_eq (tgt := 19) (pc' := 8) C dX0_lend_5 rfl rfl (fun c3 => ?_) (fun c3 => ?_)
  · rw [if_pos c3] at h
    refine r_iconst (pc' := 20) C dX0_lend_19 rfl kc_m1 ?_
    have h := Option.some.inj h
    subst h
    exact r_ret C rfl dX0_lend_20 hE
  · rw [if_neg c3] at h
    refine r_iload_n (pc' := 9) C dX0_lend_8 rfl 3 rfl ?_
    refine r_iconst (pc' := 10) C dX0_lend_9 rfl kc_1 ?_
    refine r_icmp_lt (tgt := 19) (pc' := 13) C dX0_lend_10 rfl rfl (fun c4 => ?_) (fun c4 => ?_)
    · rw [if_pos c4] at h
      refine r_iconst (pc' := 20) C dX0_lend_19 rfl kc_m1 ?_
      have h := Option.some.inj h
      subst h
      exact r_ret C rfl dX0_lend_20 hE
    · rw [if_neg c4] at h
      refine r_iload_n (pc' := 14) C dX0_lend_13 rfl 3 rfl ?_
      refine r_bipush (pc' := 16) C dX0_lend_14 rfl kb_9 ?_
      refine r_icmp_le (tgt := 21) (pc' := 19) C dX0_lend_16 rfl rfl (fun c5 => ?_) (fun c5 => ?_)
      · rw [if_pos c5] at h
        refine r_aload_n (pc' := 22) C dX0_lend_21 rfl 1 rfl ?_
        refine r_iload_n (pc' := 23) C dX0_lend_22 rfl 2 rfl ?_
        obtain ⟨r6, e7, h⟩ := bd h
        refine r_cV1 (pc' := 26) C (X5_isGone_ok hk1 e7) mlX0_80 ceX5_isGone cvX5_isGone (st0 hk1) rfl rfl rfl (Nat.le_of_ble_eq_true rfl) rfl (Nat.le_of_ble_eq_true rfl) dX0_lend_23 rfl (kk := ?_)
        refine r_if_eq (tgt := 32) (pc' := 29) C dX0_lend_26 rfl rfl (fun c8 => ?_) (fun c8 => ?_)
        · rw [if_pos c8] at h
          refine r_aload_n (pc' := 33) C dX0_lend_32 rfl 1 rfl ?_
          refine r_getI (pc' := 36) C flX0_146 (st0 hk1) rfl dX0_lend_33 rfl ?_
          refine r_iload_n (pc' := 37) C dX0_lend_36 rfl 3 rfl ?_
          refine r_icmp_ge (tgt := 43) (pc' := 40) C dX0_lend_37 rfl rfl (fun c9 => ?_) (fun c9 => ?_)
          · rw [if_pos c9] at h
            refine r_aload_n (pc' := 44) C dX0_lend_43 rfl 1 rfl ?_
            refine r_getR (pc' := 47) C flX0_92 (st0 hk1) rfl dX0_lend_44 rfl ?_
            refine r_iload_n (pc' := 48) C dX0_lend_47 rfl 2 rfl ?_
            obtain ⟨q10, h⟩ := ck h
            refine r_iald (pc' := 49) C (st1 hk1) (vin q10) dX0_lend_48 rfl ?_
            refine r_iload_n (pc' := 50) C dX0_lend_49 rfl 3 rfl ?_
            refine r_iadd (pc' := 51) C dX0_lend_50 rfl ?_
            refine r_bipush (pc' := 53) C dX0_lend_51 rfl kb_9 ?_
            refine r_icmp_le (tgt := 59) (pc' := 56) C dX0_lend_53 rfl rfl (fun c11 => ?_) (fun c11 => ?_)
            · rw [if_pos c11] at h
              refine r_aload_n (pc' := 60) C dX0_lend_59 rfl 1 rfl ?_
              refine r_dup (pc' := 61) C dX0_lend_60 rfl rfl ?_
              refine r_getI (pc' := 64) C flX0_146 (st0 hk1) rfl dX0_lend_61 rfl ?_
              refine r_iload_n (pc' := 65) C dX0_lend_64 rfl 3 rfl ?_
              refine r_isub (pc' := 66) C dX0_lend_65 rfl ?_
              obtain ⟨σ12, e13, h⟩ := bs h
              refine r_putI (pc' := 69) (σ1 := σ12) C fpX0_146 (st0 hk1) rfl rfl rfl dX0_lend_66 rfl e13 ?_
              refine r_aload_n (pc' := 70) C dX0_lend_69 rfl 1 rfl ?_
              refine r_getR (pc' := 73) C flX0_92 (st0 hk1) rfl dX0_lend_70 rfl ?_
              refine r_iload_n (pc' := 74) C dX0_lend_73 rfl 2 rfl ?_
              refine r_dup2 (pc' := 75) C dX0_lend_74 rfl rfl rfl ?_
              obtain ⟨q14, h⟩ := ck h
              refine r_iald (pc' := 76) C (st1 hk1) (vin q14) dX0_lend_75 rfl ?_
              refine r_iload_n (pc' := 77) C dX0_lend_76 rfl 3 rfl ?_
              refine r_iadd (pc' := 78) C dX0_lend_77 rfl ?_
              obtain ⟨q15, h⟩ := ck h
              obtain ⟨σ16, e17, h⟩ := bs h
              refine r_iast (pc' := 79) (σ1 := σ16) C (st1 hk1) (vin q15) dX0_lend_78 rfl e17 ?_
              refine r_aload_n (pc' := 80) C dX0_lend_79 rfl 1 rfl ?_
              refine r_getR (pc' := 83) C flX0_92 (st0 hk1) rfl dX0_lend_80 rfl ?_
              refine r_iload_n (pc' := 84) C dX0_lend_83 rfl 2 rfl ?_
              obtain ⟨q18, h⟩ := ck h
              refine r_iald (pc' := 85) C (st1 hk1) (vin q18) dX0_lend_84 rfl ?_
              have h := Option.some.inj h
              subst h
              exact r_ret C rfl dX0_lend_85 hE
            · rw [if_neg c11] at h
              refine r_bipush (pc' := 58) C dX0_lend_56 rfl kb_m4 ?_
              have h := Option.some.inj h
              subst h
              exact r_ret C rfl dX0_lend_58 hE
          · rw [if_neg c9] at h
            refine r_bipush (pc' := 42) C dX0_lend_40 rfl kb_m3 ?_
            have h := Option.some.inj h
            subst h
            exact r_ret C rfl dX0_lend_42 hE
        · rw [if_neg c8] at h
          refine r_bipush (pc' := 31) C dX0_lend_29 rfl kb_m2 ?_
          have h := Option.some.inj h
          subst h
          exact r_ret C rfl dX0_lend_31 hE
      · rw [if_neg c5] at h
        refine r_iconst (pc' := 20) C dX0_lend_19 rfl kc_m1 ?_
        have h := Option.some.inj h
        subst h
        exact r_ret C rfl dX0_lend_20 hE

/-! BorrowedWeight$Past.settle(I)I -/
def X1_settle (N : Nat)  (v1 : Int32) (σ : Sg) : Option (Int32 × Sg) :=
  if v1 < 0 then (some (v1, σ)) else ((X1_commit N σ).bind fun r2 => (some (v1, r2)))
set_option maxRecDepth 100000 in
set_option maxHeartbeats 4000000 in
theorem X1_settle_ok {E : Ev}  {N : Nat} {v1 : Int32} {σ : Sg} {r : Int32 × Sg} (h : X1_settle N  v1 σ = some r) : Cm E (2) yX1_settle cX1_settle 2 (some .int) [.ref 29, .int v1] SH0 SH0 σ r.2 (some (.int r.1)) 0 0 := by
  refine Cm.intro (by decide +kernel) (Nat.le_of_ble_eq_true rfl) (fun _ h => by obtain ⟨_, _, _, _, _, _, h⟩ := h; exact h) (fun Z C hE => ?_)
  show Wm E Z 0 0 SH0 σ 0 [(0, .ref 29), (1, .int v1)] []
  unfold X1_settle at h
  refine r_iload_n (pc' := 1) C dX1_settle_0 rfl 1 rfl ?_
  refine r_if_lt (tgt := 8) (pc' := 4) C dX1_settle_1 rfl rfl (fun c1 => ?_) (fun c1 => ?_)
  · rw [if_pos c1] at h
    refine r_iload_n (pc' := 9) C dX1_settle_8 rfl 1 rfl ?_
    have h := Option.some.inj h
    subst h
    exact r_ret C rfl dX1_settle_9 hE
  · rw [if_neg c1] at h
    refine r_aload_n (pc' := 5) C dX1_settle_4 rfl 0 rfl ?_
    obtain ⟨r2, e3, h⟩ := bd h
    refine r_cV0 (pc' := 8) C (X1_commit_ok  e3) mlX1_35 ceX1_commit cvX1_commit sh_29 rfl rfl rfl (Nat.le_of_ble_eq_true rfl) rfl (Nat.le_of_ble_eq_true rfl) dX1_settle_5 rfl (kk := ?_)
    refine r_iload_n (pc' := 9) C dX1_settle_8 rfl 1 rfl ?_
    have h := Option.some.inj h
    subst h
    exact r_ret C rfl dX1_settle_9 hE

/-! BorrowedWeight.lends(II)I -/
def X8_lends (N : Nat)  (v1 : Int32) (v2 : Int32) (σ : Sg) : Option (Int32 × Sg) :=
  (X1_draw N 19 σ).bind fun r1 => ((X0_lend N 19 v1 v2 r1).bind fun r3 => ((X1_settle N r3.1 r3.2).bind fun r5 => (some (r5.1, r5.2))))
set_option maxRecDepth 100000 in
set_option maxHeartbeats 4000000 in
theorem X8_lends_ok {E : Ev}  {N : Nat} {v1 : Int32} {v2 : Int32} {σ : Sg} {r : Int32 × Sg} (h : X8_lends N  v1 v2 σ = some r) : Cm E (3) yX8_lends cX8_lends 3 (some .int) [.ref 0, .int v1, .int v2] SH0 SH0 σ r.2 (some (.int r.1)) 0 0 := by
  refine Cm.intro (by decide +kernel) (Nat.le_of_ble_eq_true rfl) (fun _ h => by obtain ⟨_, _, _, _, _, _, h⟩ := h; exact h) (fun Z C hE => ?_)
  show Wm E Z 0 0 SH0 σ 0 [(0, .ref 0), (1, .int v1), (2, .int v2)] []
  unfold X8_lends at h
  refine r_aload_n (pc' := 1) C dX8_lends_0 rfl 0 rfl ?_
  refine r_getR (pc' := 4) C flX8_43 sh_0 rfl dX8_lends_1 rfl ?_
  refine r_aload_n (pc' := 5) C dX8_lends_4 rfl 0 rfl ?_
  refine r_getR (pc' := 8) C flX8_33 sh_0 rfl dX8_lends_5 rfl ?_
  obtain ⟨r1, e2, h⟩ := bd h
  refine r_cV0 (pc' := 11) C (X1_draw_ok stc_19 e2) mlX8_115 ceX1_draw cvX1_draw sh_29 rfl rfl rfl (Nat.le_of_ble_eq_true rfl) rfl (Nat.le_of_ble_eq_true rfl) dX8_lends_8 rfl (kk := ?_)
  refine r_aload_n (pc' := 12) C dX8_lends_11 rfl 0 rfl ?_
  refine r_getR (pc' := 15) C flX8_43 sh_0 rfl dX8_lends_12 rfl ?_
  refine r_aload_n (pc' := 16) C dX8_lends_15 rfl 0 rfl ?_
  refine r_getR (pc' := 19) C flX8_26 sh_0 rfl dX8_lends_16 rfl ?_
  refine r_aload_n (pc' := 20) C dX8_lends_19 rfl 0 rfl ?_
  refine r_getR (pc' := 23) C flX8_33 sh_0 rfl dX8_lends_20 rfl ?_
  refine r_iload_n (pc' := 24) C dX8_lends_23 rfl 1 rfl ?_
  refine r_iload_n (pc' := 25) C dX8_lends_24 rfl 2 rfl ?_
  obtain ⟨r3, e4, h⟩ := bd h
  refine r_cV1 (pc' := 28) C (X0_lend_ok stc_19 e4) mlX8_206 ceX0_lend cvX0_lend sh_5 rfl rfl rfl (Nat.le_of_ble_eq_true rfl) rfl (Nat.le_of_ble_eq_true rfl) dX8_lends_25 rfl (kk := ?_)
  obtain ⟨r5, e6, h⟩ := bd h
  refine r_cV1 (pc' := 31) C (X1_settle_ok  e6) mlX8_210 ceX1_settle cvX1_settle sh_29 rfl rfl rfl (Nat.le_of_ble_eq_true rfl) rfl (Nat.le_of_ble_eq_true rfl) dX8_lends_28 rfl (kk := ?_)
  have h := Option.some.inj h
  subst h
  exact r_ret C rfl dX8_lends_31 hE

/-! BorrowedWeight$Land.takeBack(LBorrowedWeight$State;II)I -/
def X0_takeBack (N : Nat) (k1 : Nat) (v2 : Int32) (v3 : Int32) (σ : Sg) : Option (Int32 × Sg) :=
  (X0_isThing N v2 σ).bind fun r1 => (if r1 = 0 then (some ((-1), σ)) else (if v3 < 1 then (some ((-1), σ)) else (if v3 ≤ 9 then (if inb v2 8 = true then if v3 ≤ (gi σ (k1 + 1) v2.toNatClampNeg) then (if ((gi σ k1 5) + v3) ≤ 99 then (if inb v2 8 = true then if inb v2 8 = true then bnS (wi σ (k1 + 1) v2.toNatClampNeg ((gi σ (k1 + 1) v2.toNatClampNeg) - v3)) fun σ11 => bnS (wi σ11 k1 5 ((gi σ11 k1 5) + v3)) fun σ13 => some (gi σ13 k1 5, σ13) else none else none) else (some ((-3), σ))) else (some ((-2), σ)) else none) else (some ((-1), σ)))))
set_option maxRecDepth 100000 in
set_option maxHeartbeats 4000000 in
theorem X0_takeBack_ok {E : Ev} {k1 : Nat} (hk1 : StAt SH0 k1) {N : Nat} {v2 : Int32} {v3 : Int32} {σ : Sg} {r : Int32 × Sg} (h : X0_takeBack N k1 v2 v3 σ = some r) : Cm E (1) yX0_takeBack cX0_takeBack 4 (some .int) [.ref 5, .ref k1, .int v2, .int v3] SH0 SH0 σ r.2 (some (.int r.1)) 0 0 := by
  refine Cm.intro (by decide +kernel) (Nat.le_of_ble_eq_true rfl) (fun _ h => by obtain ⟨_, _, _, _, _, _, h⟩ := h; exact h) (fun Z C hE => ?_)
  show Wm E Z 0 0 SH0 σ 0 [(0, .ref 5), (1, .ref k1), (2, .int v2), (3, .int v3)] []
  unfold X0_takeBack at h
  refine r_aload_n (pc' := 1) C dX0_takeBack_0 rfl 0 rfl ?_
  refine r_iload_n (pc' := 2) C dX0_takeBack_1 rfl 2 rfl ?_
  obtain ⟨r1, e2, h⟩ := bd h
  refine r_cV1 (pc' := 5) C (X0_isThing_ok  e2) mlX0_143 ceX0_isThing cvX0_isThing sh_5 rfl rfl rfl (Nat.le_of_ble_eq_true rfl) rfl (Nat.le_of_ble_eq_true rfl) dX0_takeBack_2 rfl (kk := ?_)
  refine r_if_eq (tgt := 19) (pc' := 8) C dX0_takeBack_5 rfl rfl (fun c3 => ?_) (fun c3 => ?_)
  · rw [if_pos c3] at h
    refine r_iconst (pc' := 20) C dX0_takeBack_19 rfl kc_m1 ?_
    have h := Option.some.inj h
    subst h
    exact r_ret C rfl dX0_takeBack_20 hE
  · rw [if_neg c3] at h
    refine r_iload_n (pc' := 9) C dX0_takeBack_8 rfl 3 rfl ?_
    refine r_iconst (pc' := 10) C dX0_takeBack_9 rfl kc_1 ?_
    refine r_icmp_lt (tgt := 19) (pc' := 13) C dX0_takeBack_10 rfl rfl (fun c4 => ?_) (fun c4 => ?_)
    · rw [if_pos c4] at h
      refine r_iconst (pc' := 20) C dX0_takeBack_19 rfl kc_m1 ?_
      have h := Option.some.inj h
      subst h
      exact r_ret C rfl dX0_takeBack_20 hE
    · rw [if_neg c4] at h
      refine r_iload_n (pc' := 14) C dX0_takeBack_13 rfl 3 rfl ?_
      refine r_bipush (pc' := 16) C dX0_takeBack_14 rfl kb_9 ?_
      refine r_icmp_le (tgt := 21) (pc' := 19) C dX0_takeBack_16 rfl rfl (fun c5 => ?_) (fun c5 => ?_)
      · rw [if_pos c5] at h
        refine r_aload_n (pc' := 22) C dX0_takeBack_21 rfl 1 rfl ?_
        refine r_getR (pc' := 25) C flX0_92 (st0 hk1) rfl dX0_takeBack_22 rfl ?_
        refine r_iload_n (pc' := 26) C dX0_takeBack_25 rfl 2 rfl ?_
        obtain ⟨q6, h⟩ := ck h
        refine r_iald (pc' := 27) C (st1 hk1) (vin q6) dX0_takeBack_26 rfl ?_
        refine r_iload_n (pc' := 28) C dX0_takeBack_27 rfl 3 rfl ?_
        refine r_icmp_ge (tgt := 34) (pc' := 31) C dX0_takeBack_28 rfl rfl (fun c7 => ?_) (fun c7 => ?_)
        · rw [if_pos c7] at h
          refine r_aload_n (pc' := 35) C dX0_takeBack_34 rfl 1 rfl ?_
          refine r_getI (pc' := 38) C flX0_146 (st0 hk1) rfl dX0_takeBack_35 rfl ?_
          refine r_iload_n (pc' := 39) C dX0_takeBack_38 rfl 3 rfl ?_
          refine r_iadd (pc' := 40) C dX0_takeBack_39 rfl ?_
          refine r_bipush (pc' := 42) C dX0_takeBack_40 rfl kb_99 ?_
          refine r_icmp_le (tgt := 48) (pc' := 45) C dX0_takeBack_42 rfl rfl (fun c8 => ?_) (fun c8 => ?_)
          · rw [if_pos c8] at h
            refine r_aload_n (pc' := 49) C dX0_takeBack_48 rfl 1 rfl ?_
            refine r_getR (pc' := 52) C flX0_92 (st0 hk1) rfl dX0_takeBack_49 rfl ?_
            refine r_iload_n (pc' := 53) C dX0_takeBack_52 rfl 2 rfl ?_
            refine r_dup2 (pc' := 54) C dX0_takeBack_53 rfl rfl rfl ?_
            obtain ⟨q9, h⟩ := ck h
            refine r_iald (pc' := 55) C (st1 hk1) (vin q9) dX0_takeBack_54 rfl ?_
            refine r_iload_n (pc' := 56) C dX0_takeBack_55 rfl 3 rfl ?_
            refine r_isub (pc' := 57) C dX0_takeBack_56 rfl ?_
            obtain ⟨q10, h⟩ := ck h
            obtain ⟨σ11, e12, h⟩ := bs h
            refine r_iast (pc' := 58) (σ1 := σ11) C (st1 hk1) (vin q10) dX0_takeBack_57 rfl e12 ?_
            refine r_aload_n (pc' := 59) C dX0_takeBack_58 rfl 1 rfl ?_
            refine r_dup (pc' := 60) C dX0_takeBack_59 rfl rfl ?_
            refine r_getI (pc' := 63) C flX0_146 (st0 hk1) rfl dX0_takeBack_60 rfl ?_
            refine r_iload_n (pc' := 64) C dX0_takeBack_63 rfl 3 rfl ?_
            refine r_iadd (pc' := 65) C dX0_takeBack_64 rfl ?_
            obtain ⟨σ13, e14, h⟩ := bs h
            refine r_putI (pc' := 68) (σ1 := σ13) C fpX0_146 (st0 hk1) rfl rfl rfl dX0_takeBack_65 rfl e14 ?_
            refine r_aload_n (pc' := 69) C dX0_takeBack_68 rfl 1 rfl ?_
            refine r_getI (pc' := 72) C flX0_146 (st0 hk1) rfl dX0_takeBack_69 rfl ?_
            have h := Option.some.inj h
            subst h
            exact r_ret C rfl dX0_takeBack_72 hE
          · rw [if_neg c8] at h
            refine r_bipush (pc' := 47) C dX0_takeBack_45 rfl kb_m3 ?_
            have h := Option.some.inj h
            subst h
            exact r_ret C rfl dX0_takeBack_47 hE
        · rw [if_neg c7] at h
          refine r_bipush (pc' := 33) C dX0_takeBack_31 rfl kb_m2 ?_
          have h := Option.some.inj h
          subst h
          exact r_ret C rfl dX0_takeBack_33 hE
      · rw [if_neg c5] at h
        refine r_iconst (pc' := 20) C dX0_takeBack_19 rfl kc_m1 ?_
        have h := Option.some.inj h
        subst h
        exact r_ret C rfl dX0_takeBack_20 hE

/-! BorrowedWeight.gives(II)I -/
def X8_gives (N : Nat)  (v1 : Int32) (v2 : Int32) (σ : Sg) : Option (Int32 × Sg) :=
  (X1_draw N 19 σ).bind fun r1 => ((X0_takeBack N 19 v1 v2 r1).bind fun r3 => ((X1_settle N r3.1 r3.2).bind fun r5 => (some (r5.1, r5.2))))
set_option maxRecDepth 100000 in
set_option maxHeartbeats 4000000 in
theorem X8_gives_ok {E : Ev}  {N : Nat} {v1 : Int32} {v2 : Int32} {σ : Sg} {r : Int32 × Sg} (h : X8_gives N  v1 v2 σ = some r) : Cm E (3) yX8_gives cX8_gives 3 (some .int) [.ref 0, .int v1, .int v2] SH0 SH0 σ r.2 (some (.int r.1)) 0 0 := by
  refine Cm.intro (by decide +kernel) (Nat.le_of_ble_eq_true rfl) (fun _ h => by obtain ⟨_, _, _, _, _, _, h⟩ := h; exact h) (fun Z C hE => ?_)
  show Wm E Z 0 0 SH0 σ 0 [(0, .ref 0), (1, .int v1), (2, .int v2)] []
  unfold X8_gives at h
  refine r_aload_n (pc' := 1) C dX8_gives_0 rfl 0 rfl ?_
  refine r_getR (pc' := 4) C flX8_43 sh_0 rfl dX8_gives_1 rfl ?_
  refine r_aload_n (pc' := 5) C dX8_gives_4 rfl 0 rfl ?_
  refine r_getR (pc' := 8) C flX8_33 sh_0 rfl dX8_gives_5 rfl ?_
  obtain ⟨r1, e2, h⟩ := bd h
  refine r_cV0 (pc' := 11) C (X1_draw_ok stc_19 e2) mlX8_115 ceX1_draw cvX1_draw sh_29 rfl rfl rfl (Nat.le_of_ble_eq_true rfl) rfl (Nat.le_of_ble_eq_true rfl) dX8_gives_8 rfl (kk := ?_)
  refine r_aload_n (pc' := 12) C dX8_gives_11 rfl 0 rfl ?_
  refine r_getR (pc' := 15) C flX8_43 sh_0 rfl dX8_gives_12 rfl ?_
  refine r_aload_n (pc' := 16) C dX8_gives_15 rfl 0 rfl ?_
  refine r_getR (pc' := 19) C flX8_26 sh_0 rfl dX8_gives_16 rfl ?_
  refine r_aload_n (pc' := 20) C dX8_gives_19 rfl 0 rfl ?_
  refine r_getR (pc' := 23) C flX8_33 sh_0 rfl dX8_gives_20 rfl ?_
  refine r_iload_n (pc' := 24) C dX8_gives_23 rfl 1 rfl ?_
  refine r_iload_n (pc' := 25) C dX8_gives_24 rfl 2 rfl ?_
  obtain ⟨r3, e4, h⟩ := bd h
  refine r_cV1 (pc' := 28) C (X0_takeBack_ok stc_19 e4) mlX8_213 ceX0_takeBack cvX0_takeBack sh_5 rfl rfl rfl (Nat.le_of_ble_eq_true rfl) rfl (Nat.le_of_ble_eq_true rfl) dX8_gives_25 rfl (kk := ?_)
  obtain ⟨r5, e6, h⟩ := bd h
  refine r_cV1 (pc' := 31) C (X1_settle_ok  e6) mlX8_210 ceX1_settle cvX1_settle sh_29 rfl rfl rfl (Nat.le_of_ble_eq_true rfl) rfl (Nat.le_of_ble_eq_true rfl) dX8_gives_28 rfl (kk := ?_)
  have h := Option.some.inj h
  subst h
  exact r_ret C rfl dX8_gives_31 hE

/-! BorrowedWeight$State.stringCount()I -/
def X5_stringCount_l4 (N : Nat) (k0 : Nat)  (σ : Sg) : Nat → Int32 → Int32 → Option (Int32)
  | 0, _, _ => none
  | n + 1, v1, v2 =>
    if 8 ≤ v2 then (some (v1 / 2)) else (if inb v2 8 = true then (J6_bitCount_0f7a4 N (gi σ (k0 + 4) v2.toNatClampNeg) σ).bind fun r4 => (X5_stringCount_l4 N k0 σ n (v1 + r4) (v2 + 1)) else none)
set_option maxRecDepth 100000 in
set_option maxHeartbeats 4000000 in
theorem X5_stringCount_l4_ok {E : Ev} {k0 : Nat} (hk0 : StAt SH0 k0) {N : Nat}  {σ : Sg}  : ∀ (n : Nat) (v1 : Int32) (v2 : Int32) (r : Int32), X5_stringCount_l4 N k0 σ n v1 v2 = some r → Gp E RX5 cX5_stringCount (some .int) 3 (1) SH0 σ (some (.int r)) σ 4 [(0, .ref k0), (1, .int v1), (2, .int v2)] [] := by
  intro n
  induction n with
  | zero => intro v1 v2 r h; cases h
  | succ n ih =>
    intro v1 v2 r h Z C hE
    unfold X5_stringCount_l4 at h
    refine r_iload_n (pc' := 5) C dX5_stringCount_4 rfl 2 rfl ?_
    refine r_bipush (pc' := 7) C dX5_stringCount_5 rfl kb_8 ?_
    refine r_icmp_ge (tgt := 28) (pc' := 10) C dX5_stringCount_7 rfl rfl (fun c1 => ?_) (fun c1 => ?_)
    · rw [if_pos c1] at h
      refine r_iload_n (pc' := 29) C dX5_stringCount_28 rfl 1 rfl ?_
      refine r_iconst (pc' := 30) C dX5_stringCount_29 rfl kc_2 ?_
      refine r_idiv (pc' := 31) C dX5_stringCount_30 rfl (by decide) ?_
      have h := Option.some.inj h
      subst h
      exact r_ret C rfl dX5_stringCount_31 hE
    · rw [if_neg c1] at h
      refine r_iload_n (pc' := 11) C dX5_stringCount_10 rfl 1 rfl ?_
      refine r_aload_n (pc' := 12) C dX5_stringCount_11 rfl 0 rfl ?_
      refine r_getR (pc' := 15) C flX5_21 (st0 hk0) rfl dX5_stringCount_12 rfl ?_
      refine r_iload_n (pc' := 16) C dX5_stringCount_15 rfl 2 rfl ?_
      obtain ⟨q3, h⟩ := ck h
      refine r_iald (pc' := 17) C (st4 hk0) (vin q3) dX5_stringCount_16 rfl ?_
      obtain ⟨r4, e5, h⟩ := bd h
      refine r_cS1 (pc' := 20) C (J6_bitCount_0f7a4_ok  e5) mlX5_40 ceJ6_bitCount_0f7a4 csJ6_bitCount_0f7a4 rfl (Nat.le_of_ble_eq_true rfl) rfl (Nat.le_of_ble_eq_true rfl) dX5_stringCount_17 rfl (kk := ?_)
      refine r_iadd (pc' := 21) C dX5_stringCount_20 rfl ?_
      refine r_istore_n (pc' := 22) (lv2 := [(1, .int (v1 + r4)), (0, .ref k0), (2, .int v2)]) C dX5_stringCount_21 rfl rfl (Nat.le_of_ble_eq_true rfl) rfl ?_
      refine r_iinc (pc' := 25) (v := v2 + 1) (lv2 := [(2, .int (v2 + 1)), (1, .int (v1 + r4)), (0, .ref k0)]) C dX5_stringCount_22 rfl 2 rfl rfl (Nat.le_of_ble_eq_true rfl) rfl ?_
      refine r_goto (tgt := 4) C dX5_stringCount_25 rfl ?_
      refine r_sub [2, 1, 0] rfl ?_
      exact ih _ _ _ h Z C hE
def X5_stringCount (N : Nat) (k0 : Nat)  (σ : Sg) : Option (Int32) :=
  X5_stringCount_l4 N k0 σ N 0 0
set_option maxRecDepth 100000 in
set_option maxHeartbeats 4000000 in
theorem X5_stringCount_ok {E : Ev} {k0 : Nat} (hk0 : StAt SH0 k0) {N : Nat}  {σ : Sg} {r : Int32} (h : X5_stringCount N k0  σ = some r) : Cm E (1) yX5_stringCount cX5_stringCount 3 (some .int) [.ref k0] SH0 SH0 σ σ (some (.int r)) 0 0 := by
  refine Cm.intro (by decide +kernel) (Nat.le_of_ble_eq_true rfl) (fun _ h => by obtain ⟨_, _, _, _, _, _, h⟩ := h; exact h) (fun Z C hE => ?_)
  show Wm E Z 0 0 SH0 σ 0 [(0, .ref k0)] []
  unfold X5_stringCount at h
  refine r_iconst (pc' := 1) C dX5_stringCount_0 rfl kc_0 ?_
  refine r_istore_n (pc' := 2) (lv2 := [(1, .int 0), (0, .ref k0)]) C dX5_stringCount_1 rfl rfl (Nat.le_of_ble_eq_true rfl) rfl ?_
  refine r_iconst (pc' := 3) C dX5_stringCount_2 rfl kc_0 ?_
  refine r_istore_n (pc' := 4) (lv2 := [(2, .int 0), (1, .int 0), (0, .ref k0)]) C dX5_stringCount_3 rfl rfl (Nat.le_of_ble_eq_true rfl) rfl ?_
  refine r_sub [2, 1, 0] rfl ?_
  exact X5_stringCount_l4_ok hk0 N _ _ _ h Z C hE

/-! BorrowedWeight$Land.tieOrCut(LBorrowedWeight$State;II)I -/
def X0_tieOrCut (N : Nat) (k1 : Nat) (v2 : Int32) (v3 : Int32) (σ : Sg) : Option (Int32 × Sg) :=
  (X0_isThing N v2 σ).bind fun r1 => (if r1 = 0 then (some ((-1), σ)) else ((X0_isThing N v3 σ).bind fun r4 => (if r4 = 0 then (some ((-1), σ)) else (if v2 = v3 then (some ((-1), σ)) else ((X5_isGone N k1 v2 σ).bind fun r8 => (if r8 = 0 then ((X5_isGone N k1 v3 σ).bind fun r11 => (if r11 = 0 then ((X5_toggle N k1 v2 v3 σ).bind fun r14 => ((X5_stringCount N k1 r14).bind fun r16 => (some (r16, r14)))) else (some ((-2), σ)))) else (some ((-2), σ))))))))
set_option maxRecDepth 100000 in
set_option maxHeartbeats 4000000 in
theorem X0_tieOrCut_ok {E : Ev} {k1 : Nat} (hk1 : StAt SH0 k1) {N : Nat} {v2 : Int32} {v3 : Int32} {σ : Sg} {r : Int32 × Sg} (h : X0_tieOrCut N k1 v2 v3 σ = some r) : Cm E (2) yX0_tieOrCut cX0_tieOrCut 4 (some .int) [.ref 5, .ref k1, .int v2, .int v3] SH0 SH0 σ r.2 (some (.int r.1)) 0 0 := by
  refine Cm.intro (by decide +kernel) (Nat.le_of_ble_eq_true rfl) (fun _ h => by obtain ⟨_, _, _, _, _, _, h⟩ := h; exact h) (fun Z C hE => ?_)
  show Wm E Z 0 0 SH0 σ 0 [(0, .ref 5), (1, .ref k1), (2, .int v2), (3, .int v3)] []
  unfold X0_tieOrCut at h
  refine r_aload_n (pc' := 1) C dX0_tieOrCut_0 rfl 0 rfl ?_
  refine r_iload_n (pc' := 2) C dX0_tieOrCut_1 rfl 2 rfl ?_
  obtain ⟨r1, e2, h⟩ := bd h
  refine r_cV1 (pc' := 5) C (X0_isThing_ok  e2) mlX0_143 ceX0_isThing cvX0_isThing sh_5 rfl rfl rfl (Nat.le_of_ble_eq_true rfl) rfl (Nat.le_of_ble_eq_true rfl) dX0_tieOrCut_2 rfl (kk := ?_)
  refine r_if_eq (tgt := 21) (pc' := 8) C dX0_tieOrCut_5 rfl rfl (fun c3 => ?_) (fun c3 => ?_)
  · rw [if_pos c3] at h
    refine r_iconst (pc' := 22) C dX0_tieOrCut_21 rfl kc_m1 ?_
    have h := Option.some.inj h
    subst h
    exact r_ret C rfl dX0_tieOrCut_22 hE
  · rw [if_neg c3] at h
    refine r_aload_n (pc' := 9) C dX0_tieOrCut_8 rfl 0 rfl ?_
    refine r_iload_n (pc' := 10) C dX0_tieOrCut_9 rfl 3 rfl ?_
    obtain ⟨r4, e5, h⟩ := bd h
    refine r_cV1 (pc' := 13) C (X0_isThing_ok  e5) mlX0_143 ceX0_isThing cvX0_isThing sh_5 rfl rfl rfl (Nat.le_of_ble_eq_true rfl) rfl (Nat.le_of_ble_eq_true rfl) dX0_tieOrCut_10 rfl (kk := ?_)
    refine r_if_eq (tgt := 21) (pc' := 16) C dX0_tieOrCut_13 rfl rfl (fun c6 => ?_) (fun c6 => ?_)
    · rw [if_pos c6] at h
      refine r_iconst (pc' := 22) C dX0_tieOrCut_21 rfl kc_m1 ?_
      have h := Option.some.inj h
      subst h
      exact r_ret C rfl dX0_tieOrCut_22 hE
    · rw [if_neg c6] at h
      refine r_iload_n (pc' := 17) C dX0_tieOrCut_16 rfl 2 rfl ?_
      refine r_iload_n (pc' := 18) C dX0_tieOrCut_17 rfl 3 rfl ?_
      refine r_icmp_ne (tgt := 23) (pc' := 21) C dX0_tieOrCut_18 rfl rfl (fun c7 => ?_) (fun c7 => ?_)
      · rw [if_neg c7] at h
        refine r_aload_n (pc' := 24) C dX0_tieOrCut_23 rfl 1 rfl ?_
        refine r_iload_n (pc' := 25) C dX0_tieOrCut_24 rfl 2 rfl ?_
        obtain ⟨r8, e9, h⟩ := bd h
        refine r_cV1 (pc' := 28) C (X5_isGone_ok hk1 e9) mlX0_80 ceX5_isGone cvX5_isGone (st0 hk1) rfl rfl rfl (Nat.le_of_ble_eq_true rfl) rfl (Nat.le_of_ble_eq_true rfl) dX0_tieOrCut_25 rfl (kk := ?_)
        refine r_if_ne (tgt := 39) (pc' := 31) C dX0_tieOrCut_28 rfl rfl (fun c10 => ?_) (fun c10 => ?_)
        · rw [if_neg c10] at h
          refine r_bipush (pc' := 41) C dX0_tieOrCut_39 rfl kb_m2 ?_
          have h := Option.some.inj h
          subst h
          exact r_ret C rfl dX0_tieOrCut_41 hE
        · rw [if_pos c10] at h
          refine r_aload_n (pc' := 32) C dX0_tieOrCut_31 rfl 1 rfl ?_
          refine r_iload_n (pc' := 33) C dX0_tieOrCut_32 rfl 3 rfl ?_
          obtain ⟨r11, e12, h⟩ := bd h
          refine r_cV1 (pc' := 36) C (X5_isGone_ok hk1 e12) mlX0_80 ceX5_isGone cvX5_isGone (st0 hk1) rfl rfl rfl (Nat.le_of_ble_eq_true rfl) rfl (Nat.le_of_ble_eq_true rfl) dX0_tieOrCut_33 rfl (kk := ?_)
          refine r_if_eq (tgt := 42) (pc' := 39) C dX0_tieOrCut_36 rfl rfl (fun c13 => ?_) (fun c13 => ?_)
          · rw [if_pos c13] at h
            refine r_aload_n (pc' := 43) C dX0_tieOrCut_42 rfl 1 rfl ?_
            refine r_iload_n (pc' := 44) C dX0_tieOrCut_43 rfl 2 rfl ?_
            refine r_iload_n (pc' := 45) C dX0_tieOrCut_44 rfl 3 rfl ?_
            obtain ⟨r14, e15, h⟩ := bd h
            refine r_cV0 (pc' := 48) C (X5_toggle_ok hk1 e15) mlX0_149 ceX5_toggle cvX5_toggle (st0 hk1) rfl rfl rfl (Nat.le_of_ble_eq_true rfl) rfl (Nat.le_of_ble_eq_true rfl) dX0_tieOrCut_45 rfl (kk := ?_)
            refine r_aload_n (pc' := 49) C dX0_tieOrCut_48 rfl 1 rfl ?_
            obtain ⟨r16, e17, h⟩ := bd h
            refine r_cV1 (pc' := 52) C (X5_stringCount_ok hk1 e17) mlX0_153 ceX5_stringCount cvX5_stringCount (st0 hk1) rfl rfl rfl (Nat.le_of_ble_eq_true rfl) rfl (Nat.le_of_ble_eq_true rfl) dX0_tieOrCut_49 rfl (kk := ?_)
            have h := Option.some.inj h
            subst h
            exact r_ret C rfl dX0_tieOrCut_52 hE
          · rw [if_neg c13] at h
            refine r_bipush (pc' := 41) C dX0_tieOrCut_39 rfl kb_m2 ?_
            have h := Option.some.inj h
            subst h
            exact r_ret C rfl dX0_tieOrCut_41 hE
      · rw [if_pos c7] at h
        refine r_iconst (pc' := 22) C dX0_tieOrCut_21 rfl kc_m1 ?_
        have h := Option.some.inj h
        subst h
        exact r_ret C rfl dX0_tieOrCut_22 hE

/-! BorrowedWeight.ties(II)I -/
def X8_ties (N : Nat)  (v1 : Int32) (v2 : Int32) (σ : Sg) : Option (Int32 × Sg) :=
  (X1_draw N 19 σ).bind fun r1 => ((X0_tieOrCut N 19 v1 v2 r1).bind fun r3 => ((X1_settle N r3.1 r3.2).bind fun r5 => (some (r5.1, r5.2))))
set_option maxRecDepth 100000 in
set_option maxHeartbeats 4000000 in
theorem X8_ties_ok {E : Ev}  {N : Nat} {v1 : Int32} {v2 : Int32} {σ : Sg} {r : Int32 × Sg} (h : X8_ties N  v1 v2 σ = some r) : Cm E (3) yX8_ties cX8_ties 3 (some .int) [.ref 0, .int v1, .int v2] SH0 SH0 σ r.2 (some (.int r.1)) 0 0 := by
  refine Cm.intro (by decide +kernel) (Nat.le_of_ble_eq_true rfl) (fun _ h => by obtain ⟨_, _, _, _, _, _, h⟩ := h; exact h) (fun Z C hE => ?_)
  show Wm E Z 0 0 SH0 σ 0 [(0, .ref 0), (1, .int v1), (2, .int v2)] []
  unfold X8_ties at h
  refine r_aload_n (pc' := 1) C dX8_ties_0 rfl 0 rfl ?_
  refine r_getR (pc' := 4) C flX8_43 sh_0 rfl dX8_ties_1 rfl ?_
  refine r_aload_n (pc' := 5) C dX8_ties_4 rfl 0 rfl ?_
  refine r_getR (pc' := 8) C flX8_33 sh_0 rfl dX8_ties_5 rfl ?_
  obtain ⟨r1, e2, h⟩ := bd h
  refine r_cV0 (pc' := 11) C (X1_draw_ok stc_19 e2) mlX8_115 ceX1_draw cvX1_draw sh_29 rfl rfl rfl (Nat.le_of_ble_eq_true rfl) rfl (Nat.le_of_ble_eq_true rfl) dX8_ties_8 rfl (kk := ?_)
  refine r_aload_n (pc' := 12) C dX8_ties_11 rfl 0 rfl ?_
  refine r_getR (pc' := 15) C flX8_43 sh_0 rfl dX8_ties_12 rfl ?_
  refine r_aload_n (pc' := 16) C dX8_ties_15 rfl 0 rfl ?_
  refine r_getR (pc' := 19) C flX8_26 sh_0 rfl dX8_ties_16 rfl ?_
  refine r_aload_n (pc' := 20) C dX8_ties_19 rfl 0 rfl ?_
  refine r_getR (pc' := 23) C flX8_33 sh_0 rfl dX8_ties_20 rfl ?_
  refine r_iload_n (pc' := 24) C dX8_ties_23 rfl 1 rfl ?_
  refine r_iload_n (pc' := 25) C dX8_ties_24 rfl 2 rfl ?_
  obtain ⟨r3, e4, h⟩ := bd h
  refine r_cV1 (pc' := 28) C (X0_tieOrCut_ok stc_19 e4) mlX8_216 ceX0_tieOrCut cvX0_tieOrCut sh_5 rfl rfl rfl (Nat.le_of_ble_eq_true rfl) rfl (Nat.le_of_ble_eq_true rfl) dX8_ties_25 rfl (kk := ?_)
  obtain ⟨r5, e6, h⟩ := bd h
  refine r_cV1 (pc' := 31) C (X1_settle_ok  e6) mlX8_210 ceX1_settle cvX1_settle sh_29 rfl rfl rfl (Nat.le_of_ble_eq_true rfl) rfl (Nat.le_of_ble_eq_true rfl) dX8_ties_28 rfl (kk := ?_)
  have h := Option.some.inj h
  subst h
  exact r_ret C rfl dX8_ties_31 hE

/-! BorrowedWeight$Land.takeDebt(LBorrowedWeight$State;I)I -/
def X0_takeDebt (N : Nat) (k1 : Nat) (v2 : Int32) (σ : Sg) : Option (Int32 × Sg) :=
  (X0_isThing N v2 σ).bind fun r1 => (if r1 = 0 then (some ((-1), σ)) else (if inb v2 8 = true then if (gi σ (k1 + 3) v2.toNatClampNeg) = 0 then (some ((-2), σ)) else (if inb v2 8 = true then bnS (wi σ (k1 + 3) v2.toNatClampNeg 0) fun σ7 => (J9_min_7cf53 N ((gi σ7 k1 6) + (gi σ (k1 + 3) v2.toNatClampNeg)) 9999 σ7).bind fun r9 => (bnS (wi σ7 k1 6 r9) fun σ11 => some (gi σ (k1 + 3) v2.toNatClampNeg, σ11)) else none) else none))
set_option maxRecDepth 100000 in
set_option maxHeartbeats 4000000 in
theorem X0_takeDebt_ok {E : Ev} {k1 : Nat} (hk1 : StAt SH0 k1) {N : Nat} {v2 : Int32} {σ : Sg} {r : Int32 × Sg} (h : X0_takeDebt N k1 v2 σ = some r) : Cm E (1) yX0_takeDebt cX0_takeDebt 4 (some .int) [.ref 5, .ref k1, .int v2] SH0 SH0 σ r.2 (some (.int r.1)) 0 0 := by
  refine Cm.intro (by decide +kernel) (Nat.le_of_ble_eq_true rfl) (fun _ h => by obtain ⟨_, _, _, _, _, _, h⟩ := h; exact h) (fun Z C hE => ?_)
  show Wm E Z 0 0 SH0 σ 0 [(0, .ref 5), (1, .ref k1), (2, .int v2)] []
  unfold X0_takeDebt at h
  refine r_aload_n (pc' := 1) C dX0_takeDebt_0 rfl 0 rfl ?_
  refine r_iload_n (pc' := 2) C dX0_takeDebt_1 rfl 2 rfl ?_
  obtain ⟨r1, e2, h⟩ := bd h
  refine r_cV1 (pc' := 5) C (X0_isThing_ok  e2) mlX0_143 ceX0_isThing cvX0_isThing sh_5 rfl rfl rfl (Nat.le_of_ble_eq_true rfl) rfl (Nat.le_of_ble_eq_true rfl) dX0_takeDebt_2 rfl (kk := ?_)
  refine r_if_ne (tgt := 10) (pc' := 8) C dX0_takeDebt_5 rfl rfl (fun c3 => ?_) (fun c3 => ?_)
  · rw [if_neg c3] at h
    refine r_aload_n (pc' := 11) C dX0_takeDebt_10 rfl 1 rfl ?_
    refine r_getR (pc' := 14) C flX0_98 (st0 hk1) rfl dX0_takeDebt_11 rfl ?_
    refine r_iload_n (pc' := 15) C dX0_takeDebt_14 rfl 2 rfl ?_
    obtain ⟨q4, h⟩ := ck h
    refine r_iald (pc' := 16) C (st3 hk1) (vin q4) dX0_takeDebt_15 rfl ?_
    refine r_istore_n (pc' := 17) (lv2 := [(3, .int (gi σ (k1 + 3) v2.toNatClampNeg)), (0, .ref 5), (1, .ref k1), (2, .int v2)]) C dX0_takeDebt_16 rfl rfl (Nat.le_of_ble_eq_true rfl) rfl ?_
    refine r_iload_n (pc' := 18) C dX0_takeDebt_17 rfl 0 rfl ?_
    refine r_if_ne (tgt := 24) (pc' := 21) C dX0_takeDebt_18 rfl rfl (fun c5 => ?_) (fun c5 => ?_)
    · rw [if_neg c5] at h
      refine r_aload_n (pc' := 25) C dX0_takeDebt_24 rfl 2 rfl ?_
      refine r_getR (pc' := 28) C flX0_98 (st0 hk1) rfl dX0_takeDebt_25 rfl ?_
      refine r_iload_n (pc' := 29) C dX0_takeDebt_28 rfl 3 rfl ?_
      refine r_iconst (pc' := 30) C dX0_takeDebt_29 rfl kc_0 ?_
      obtain ⟨q6, h⟩ := ck h
      obtain ⟨σ7, e8, h⟩ := bs h
      refine r_iast (pc' := 31) (σ1 := σ7) C (st3 hk1) (vin q6) dX0_takeDebt_30 rfl e8 ?_
      refine r_aload_n (pc' := 32) C dX0_takeDebt_31 rfl 2 rfl ?_
      refine r_aload_n (pc' := 33) C dX0_takeDebt_32 rfl 2 rfl ?_
      refine r_getI (pc' := 36) C flX0_156 (st0 hk1) rfl dX0_takeDebt_33 rfl ?_
      refine r_iload_n (pc' := 37) C dX0_takeDebt_36 rfl 0 rfl ?_
      refine r_iadd (pc' := 38) C dX0_takeDebt_37 rfl ?_
      refine r_sipush (pc' := 41) C dX0_takeDebt_38 rfl ks_9999 ?_
      obtain ⟨r9, e10, h⟩ := bd h
      refine r_cS1 (pc' := 44) C (J9_min_7cf53_ok  e10) mlX0_53 ceJ9_min_7cf53 csJ9_min_7cf53 rfl (Nat.le_of_ble_eq_true rfl) rfl (Nat.le_of_ble_eq_true rfl) dX0_takeDebt_41 rfl (kk := ?_)
      obtain ⟨σ11, e12, h⟩ := bs h
      refine r_putI (pc' := 47) (σ1 := σ11) C fpX0_156 (st0 hk1) rfl rfl rfl dX0_takeDebt_44 rfl e12 ?_
      refine r_iload_n (pc' := 48) C dX0_takeDebt_47 rfl 0 rfl ?_
      have h := Option.some.inj h
      subst h
      exact r_ret C rfl dX0_takeDebt_48 hE
    · rw [if_pos c5] at h
      refine r_bipush (pc' := 23) C dX0_takeDebt_21 rfl kb_m2 ?_
      have h := Option.some.inj h
      subst h
      exact r_ret C rfl dX0_takeDebt_23 hE
  · rw [if_pos c3] at h
    refine r_iconst (pc' := 9) C dX0_takeDebt_8 rfl kc_m1 ?_
    have h := Option.some.inj h
    subst h
    exact r_ret C rfl dX0_takeDebt_9 hE

/-! BorrowedWeight.pays(I)I -/
def X8_pays (N : Nat)  (v1 : Int32) (σ : Sg) : Option (Int32 × Sg) :=
  (X1_draw N 19 σ).bind fun r1 => ((X0_takeDebt N 19 v1 r1).bind fun r3 => ((X1_settle N r3.1 r3.2).bind fun r5 => (some (r5.1, r5.2))))
set_option maxRecDepth 100000 in
set_option maxHeartbeats 4000000 in
theorem X8_pays_ok {E : Ev}  {N : Nat} {v1 : Int32} {σ : Sg} {r : Int32 × Sg} (h : X8_pays N  v1 σ = some r) : Cm E (3) yX8_pays cX8_pays 2 (some .int) [.ref 0, .int v1] SH0 SH0 σ r.2 (some (.int r.1)) 0 0 := by
  refine Cm.intro (by decide +kernel) (Nat.le_of_ble_eq_true rfl) (fun _ h => by obtain ⟨_, _, _, _, _, _, h⟩ := h; exact h) (fun Z C hE => ?_)
  show Wm E Z 0 0 SH0 σ 0 [(0, .ref 0), (1, .int v1)] []
  unfold X8_pays at h
  refine r_aload_n (pc' := 1) C dX8_pays_0 rfl 0 rfl ?_
  refine r_getR (pc' := 4) C flX8_43 sh_0 rfl dX8_pays_1 rfl ?_
  refine r_aload_n (pc' := 5) C dX8_pays_4 rfl 0 rfl ?_
  refine r_getR (pc' := 8) C flX8_33 sh_0 rfl dX8_pays_5 rfl ?_
  obtain ⟨r1, e2, h⟩ := bd h
  refine r_cV0 (pc' := 11) C (X1_draw_ok stc_19 e2) mlX8_115 ceX1_draw cvX1_draw sh_29 rfl rfl rfl (Nat.le_of_ble_eq_true rfl) rfl (Nat.le_of_ble_eq_true rfl) dX8_pays_8 rfl (kk := ?_)
  refine r_aload_n (pc' := 12) C dX8_pays_11 rfl 0 rfl ?_
  refine r_getR (pc' := 15) C flX8_43 sh_0 rfl dX8_pays_12 rfl ?_
  refine r_aload_n (pc' := 16) C dX8_pays_15 rfl 0 rfl ?_
  refine r_getR (pc' := 19) C flX8_26 sh_0 rfl dX8_pays_16 rfl ?_
  refine r_aload_n (pc' := 20) C dX8_pays_19 rfl 0 rfl ?_
  refine r_getR (pc' := 23) C flX8_33 sh_0 rfl dX8_pays_20 rfl ?_
  refine r_iload_n (pc' := 24) C dX8_pays_23 rfl 1 rfl ?_
  obtain ⟨r3, e4, h⟩ := bd h
  refine r_cV1 (pc' := 27) C (X0_takeDebt_ok stc_19 e4) mlX8_219 ceX0_takeDebt cvX0_takeDebt sh_5 rfl rfl rfl (Nat.le_of_ble_eq_true rfl) rfl (Nat.le_of_ble_eq_true rfl) dX8_pays_24 rfl (kk := ?_)
  obtain ⟨r5, e6, h⟩ := bd h
  refine r_cV1 (pc' := 30) C (X1_settle_ok  e6) mlX8_210 ceX1_settle cvX1_settle sh_29 rfl rfl rfl (Nat.le_of_ble_eq_true rfl) rfl (Nat.le_of_ble_eq_true rfl) dX8_pays_27 rfl (kk := ?_)
  have h := Option.some.inj h
  subst h
  exact r_ret C rfl dX8_pays_30 hE

/-! BorrowedWeight.digs(I)I -/
def X8_digs (N : Nat)  (v1 : Int32) (σ : Sg) : Option (Int32 × Sg) :=
  if v1 < 1 then (some ((-1), σ)) else (if v1 ≤ 99 then (if ((gi σ 19 5) + v1) ≤ 99 then ((X1_draw N 19 σ).bind fun r4 => ((X1_commit N r4).bind fun r6 => (bnS (wi r6 19 5 ((gi r6 19 5) + v1)) fun σ8 => some (gi σ8 19 5, σ8)))) else (some ((-3), σ))) else (some ((-1), σ)))
set_option maxRecDepth 100000 in
set_option maxHeartbeats 4000000 in
theorem X8_digs_ok {E : Ev}  {N : Nat} {v1 : Int32} {σ : Sg} {r : Int32 × Sg} (h : X8_digs N  v1 σ = some r) : Cm E (2) yX8_digs cX8_digs 2 (some .int) [.ref 0, .int v1] SH0 SH0 σ r.2 (some (.int r.1)) 0 0 := by
  refine Cm.intro (by decide +kernel) (Nat.le_of_ble_eq_true rfl) (fun _ h => by obtain ⟨_, _, _, _, _, _, h⟩ := h; exact h) (fun Z C hE => ?_)
  show Wm E Z 0 0 SH0 σ 0 [(0, .ref 0), (1, .int v1)] []
  unfold X8_digs at h
  refine r_iload_n (pc' := 1) C dX8_digs_0 rfl 1 rfl ?_
  refine r_iconst (pc' := 2) C dX8_digs_1 rfl kc_1 ?_
  refine r_icmp_lt (tgt := 11) (pc' := 5) C dX8_digs_2 rfl rfl (fun c1 => ?_) (fun c1 => ?_)
  · rw [if_pos c1] at h
    refine r_iconst (pc' := 12) C dX8_digs_11 rfl kc_m1 ?_
    have h := Option.some.inj h
    subst h
    exact r_ret C rfl dX8_digs_12 hE
  · rw [if_neg c1] at h
    refine r_iload_n (pc' := 6) C dX8_digs_5 rfl 1 rfl ?_
    refine r_bipush (pc' := 8) C dX8_digs_6 rfl kb_99 ?_
    refine r_icmp_le (tgt := 13) (pc' := 11) C dX8_digs_8 rfl rfl (fun c2 => ?_) (fun c2 => ?_)
    · rw [if_pos c2] at h
      refine r_aload_n (pc' := 14) C dX8_digs_13 rfl 0 rfl ?_
      refine r_getR (pc' := 17) C flX8_33 sh_0 rfl dX8_digs_14 rfl ?_
      refine r_getI (pc' := 20) C flX8_222 sh_19 rfl dX8_digs_17 rfl ?_
      refine r_iload_n (pc' := 21) C dX8_digs_20 rfl 1 rfl ?_
      refine r_iadd (pc' := 22) C dX8_digs_21 rfl ?_
      refine r_bipush (pc' := 24) C dX8_digs_22 rfl kb_99 ?_
      refine r_icmp_le (tgt := 30) (pc' := 27) C dX8_digs_24 rfl rfl (fun c3 => ?_) (fun c3 => ?_)
      · rw [if_pos c3] at h
        refine r_aload_n (pc' := 31) C dX8_digs_30 rfl 0 rfl ?_
        refine r_getR (pc' := 34) C flX8_43 sh_0 rfl dX8_digs_31 rfl ?_
        refine r_aload_n (pc' := 35) C dX8_digs_34 rfl 0 rfl ?_
        refine r_getR (pc' := 38) C flX8_33 sh_0 rfl dX8_digs_35 rfl ?_
        obtain ⟨r4, e5, h⟩ := bd h
        refine r_cV0 (pc' := 41) C (X1_draw_ok stc_19 e5) mlX8_115 ceX1_draw cvX1_draw sh_29 rfl rfl rfl (Nat.le_of_ble_eq_true rfl) rfl (Nat.le_of_ble_eq_true rfl) dX8_digs_38 rfl (kk := ?_)
        refine r_aload_n (pc' := 42) C dX8_digs_41 rfl 0 rfl ?_
        refine r_getR (pc' := 45) C flX8_43 sh_0 rfl dX8_digs_42 rfl ?_
        obtain ⟨r6, e7, h⟩ := bd h
        refine r_cV0 (pc' := 48) C (X1_commit_ok  e7) mlX8_122 ceX1_commit cvX1_commit sh_29 rfl rfl rfl (Nat.le_of_ble_eq_true rfl) rfl (Nat.le_of_ble_eq_true rfl) dX8_digs_45 rfl (kk := ?_)
        refine r_aload_n (pc' := 49) C dX8_digs_48 rfl 0 rfl ?_
        refine r_getR (pc' := 52) C flX8_33 sh_0 rfl dX8_digs_49 rfl ?_
        refine r_dup (pc' := 53) C dX8_digs_52 rfl rfl ?_
        refine r_getI (pc' := 56) C flX8_222 sh_19 rfl dX8_digs_53 rfl ?_
        refine r_iload_n (pc' := 57) C dX8_digs_56 rfl 1 rfl ?_
        refine r_iadd (pc' := 58) C dX8_digs_57 rfl ?_
        obtain ⟨σ8, e9, h⟩ := bs h
        refine r_putI (pc' := 61) (σ1 := σ8) C fpX8_222 sh_19 rfl rfl rfl dX8_digs_58 rfl e9 ?_
        refine r_aload_n (pc' := 62) C dX8_digs_61 rfl 0 rfl ?_
        refine r_getR (pc' := 65) C flX8_33 sh_0 rfl dX8_digs_62 rfl ?_
        refine r_getI (pc' := 68) C flX8_222 sh_19 rfl dX8_digs_65 rfl ?_
        have h := Option.some.inj h
        subst h
        exact r_ret C rfl dX8_digs_68 hE
      · rw [if_neg c3] at h
        refine r_bipush (pc' := 29) C dX8_digs_27 rfl kb_m3 ?_
        have h := Option.some.inj h
        subst h
        exact r_ret C rfl dX8_digs_29 hE
    · rw [if_neg c2] at h
      refine r_iconst (pc' := 12) C dX8_digs_11 rfl kc_m1 ?_
      have h := Option.some.inj h
      subst h
      exact r_ret C rfl dX8_digs_12 hE

/-! BorrowedWeight.digitsBehind(C)I -/
def X8_digitsBehind (N : Nat)  (v0 : Int32) (σ : Sg) : Option (Int32) :=
  if v0 = 103 then (some 2) else if v0 = 104 then (some 0) else if v0 = 105 then (some 0) else if v0 = 106 then (some 0) else if v0 = 107 then (some 0) else if v0 = 108 then (some 2) else if v0 = 109 then (some 0) else if v0 = 110 then (some 1) else if v0 = 111 then (some 0) else if v0 = 112 then (some 1) else if v0 = 113 then (some 0) else if v0 = 114 then (some 0) else if v0 = 115 then (some 0) else if v0 = 116 then (some 2) else (some 0)
set_option maxRecDepth 100000 in
set_option maxHeartbeats 4000000 in
theorem X8_digitsBehind_ok {E : Ev}  {N : Nat} {v0 : Int32} {σ : Sg} {r : Int32} (h : X8_digitsBehind N  v0 σ = some r) : Cm E (0) yX8_digitsBehind cX8_digitsBehind 1 (some .int) [.int v0] SH0 SH0 σ σ (some (.int r)) 0 0 := by
  refine Cm.intro (by decide +kernel) (Nat.le_of_ble_eq_true rfl) (fun _ h => by obtain ⟨_, _, _, _, _, _, h⟩ := h; exact h) (fun Z C hE => ?_)
  show Wm E Z 0 0 SH0 σ 0 [(0, .int v0)] []
  unfold X8_digitsBehind at h
  refine r_iload_n (pc' := 1) C dX8_digitsBehind_0 rfl 0 rfl ?_
  by_cases c1 : v0 = 103
  · rw [if_pos c1] at h
    refine r_tabIn (tgt := 74) C dX8_digitsBehind_1 (by rw [c1]; decide) (by rw [c1]; decide) (by rw [c1]; rfl) rfl ?_
    refine r_iconst (pc' := 75) C dX8_digitsBehind_74 rfl kc_2 ?_
    have h := Option.some.inj h
    subst h
    exact r_ret C rfl dX8_digitsBehind_75 hE
  rw [if_neg c1] at h
  by_cases c2 : v0 = 104
  · rw [if_pos c2] at h
    refine r_tabIn (tgt := 76) C dX8_digitsBehind_1 (by rw [c2]; decide) (by rw [c2]; decide) (by rw [c2]; rfl) rfl ?_
    refine r_iconst (pc' := 77) C dX8_digitsBehind_76 rfl kc_0 ?_
    have h := Option.some.inj h
    subst h
    exact r_ret C rfl dX8_digitsBehind_77 hE
  rw [if_neg c2] at h
  by_cases c3 : v0 = 105
  · rw [if_pos c3] at h
    refine r_tabIn (tgt := 76) C dX8_digitsBehind_1 (by rw [c3]; decide) (by rw [c3]; decide) (by rw [c3]; rfl) rfl ?_
    refine r_iconst (pc' := 77) C dX8_digitsBehind_76 rfl kc_0 ?_
    have h := Option.some.inj h
    subst h
    exact r_ret C rfl dX8_digitsBehind_77 hE
  rw [if_neg c3] at h
  by_cases c4 : v0 = 106
  · rw [if_pos c4] at h
    refine r_tabIn (tgt := 76) C dX8_digitsBehind_1 (by rw [c4]; decide) (by rw [c4]; decide) (by rw [c4]; rfl) rfl ?_
    refine r_iconst (pc' := 77) C dX8_digitsBehind_76 rfl kc_0 ?_
    have h := Option.some.inj h
    subst h
    exact r_ret C rfl dX8_digitsBehind_77 hE
  rw [if_neg c4] at h
  by_cases c5 : v0 = 107
  · rw [if_pos c5] at h
    refine r_tabIn (tgt := 76) C dX8_digitsBehind_1 (by rw [c5]; decide) (by rw [c5]; decide) (by rw [c5]; rfl) rfl ?_
    refine r_iconst (pc' := 77) C dX8_digitsBehind_76 rfl kc_0 ?_
    have h := Option.some.inj h
    subst h
    exact r_ret C rfl dX8_digitsBehind_77 hE
  rw [if_neg c5] at h
  by_cases c6 : v0 = 108
  · rw [if_pos c6] at h
    refine r_tabIn (tgt := 74) C dX8_digitsBehind_1 (by rw [c6]; decide) (by rw [c6]; decide) (by rw [c6]; rfl) rfl ?_
    refine r_iconst (pc' := 75) C dX8_digitsBehind_74 rfl kc_2 ?_
    have h := Option.some.inj h
    subst h
    exact r_ret C rfl dX8_digitsBehind_75 hE
  rw [if_neg c6] at h
  by_cases c7 : v0 = 109
  · rw [if_pos c7] at h
    refine r_tabIn (tgt := 76) C dX8_digitsBehind_1 (by rw [c7]; decide) (by rw [c7]; decide) (by rw [c7]; rfl) rfl ?_
    refine r_iconst (pc' := 77) C dX8_digitsBehind_76 rfl kc_0 ?_
    have h := Option.some.inj h
    subst h
    exact r_ret C rfl dX8_digitsBehind_77 hE
  rw [if_neg c7] at h
  by_cases c8 : v0 = 110
  · rw [if_pos c8] at h
    refine r_tabIn (tgt := 72) C dX8_digitsBehind_1 (by rw [c8]; decide) (by rw [c8]; decide) (by rw [c8]; rfl) rfl ?_
    refine r_iconst (pc' := 73) C dX8_digitsBehind_72 rfl kc_1 ?_
    have h := Option.some.inj h
    subst h
    exact r_ret C rfl dX8_digitsBehind_73 hE
  rw [if_neg c8] at h
  by_cases c9 : v0 = 111
  · rw [if_pos c9] at h
    refine r_tabIn (tgt := 76) C dX8_digitsBehind_1 (by rw [c9]; decide) (by rw [c9]; decide) (by rw [c9]; rfl) rfl ?_
    refine r_iconst (pc' := 77) C dX8_digitsBehind_76 rfl kc_0 ?_
    have h := Option.some.inj h
    subst h
    exact r_ret C rfl dX8_digitsBehind_77 hE
  rw [if_neg c9] at h
  by_cases c10 : v0 = 112
  · rw [if_pos c10] at h
    refine r_tabIn (tgt := 72) C dX8_digitsBehind_1 (by rw [c10]; decide) (by rw [c10]; decide) (by rw [c10]; rfl) rfl ?_
    refine r_iconst (pc' := 73) C dX8_digitsBehind_72 rfl kc_1 ?_
    have h := Option.some.inj h
    subst h
    exact r_ret C rfl dX8_digitsBehind_73 hE
  rw [if_neg c10] at h
  by_cases c11 : v0 = 113
  · rw [if_pos c11] at h
    refine r_tabIn (tgt := 76) C dX8_digitsBehind_1 (by rw [c11]; decide) (by rw [c11]; decide) (by rw [c11]; rfl) rfl ?_
    refine r_iconst (pc' := 77) C dX8_digitsBehind_76 rfl kc_0 ?_
    have h := Option.some.inj h
    subst h
    exact r_ret C rfl dX8_digitsBehind_77 hE
  rw [if_neg c11] at h
  by_cases c12 : v0 = 114
  · rw [if_pos c12] at h
    refine r_tabIn (tgt := 76) C dX8_digitsBehind_1 (by rw [c12]; decide) (by rw [c12]; decide) (by rw [c12]; rfl) rfl ?_
    refine r_iconst (pc' := 77) C dX8_digitsBehind_76 rfl kc_0 ?_
    have h := Option.some.inj h
    subst h
    exact r_ret C rfl dX8_digitsBehind_77 hE
  rw [if_neg c12] at h
  by_cases c13 : v0 = 115
  · rw [if_pos c13] at h
    refine r_tabIn (tgt := 76) C dX8_digitsBehind_1 (by rw [c13]; decide) (by rw [c13]; decide) (by rw [c13]; rfl) rfl ?_
    refine r_iconst (pc' := 77) C dX8_digitsBehind_76 rfl kc_0 ?_
    have h := Option.some.inj h
    subst h
    exact r_ret C rfl dX8_digitsBehind_77 hE
  rw [if_neg c13] at h
  by_cases c14 : v0 = 116
  · rw [if_pos c14] at h
    refine r_tabIn (tgt := 74) C dX8_digitsBehind_1 (by rw [c14]; decide) (by rw [c14]; decide) (by rw [c14]; rfl) rfl ?_
    refine r_iconst (pc' := 75) C dX8_digitsBehind_74 rfl kc_2 ?_
    have h := Option.some.inj h
    subst h
    exact r_ret C rfl dX8_digitsBehind_75 hE
  rw [if_neg c14] at h
  have o15 : v0.toInt < 103 ∨ 116 < v0.toInt := by
    refine tab_out (fun k h1 h2 => ?_) (by decide) (by decide)
    have hk : k = 103 ∨ k = 104 ∨ k = 105 ∨ k = 106 ∨ k = 107 ∨ k = 108 ∨ k = 109 ∨ k = 110 ∨ k = 111 ∨ k = 112 ∨ k = 113 ∨ k = 114 ∨ k = 115 ∨ k = 116 := by omega
    rcases hk with rfl | rfl | rfl | rfl | rfl | rfl | rfl | rfl | rfl | rfl | rfl | rfl | rfl | rfl
    · exact c1
    · exact c2
    · exact c3
    · exact c4
    · exact c5
    · exact c6
    · exact c7
    · exact c8
    · exact c9
    · exact c10
    · exact c11
    · exact c12
    · exact c13
    · exact c14
  refine r_tabOut (tgt := 76) C dX8_digitsBehind_1 o15 rfl ?_
  refine r_iconst (pc' := 77) C dX8_digitsBehind_76 rfl kc_0 ?_
  have h := Option.some.inj h
  subst h
  exact r_ret C rfl dX8_digitsBehind_77 hE

/-! BorrowedWeight.faultOfNight()I -/
def X8_faultOfNight_j76 (N : Nat)  (kr : Int32 → Int32 → Int32 → Int32 → Option (Int32)) (v1 : Int32) (v2 : Int32) (v3 : Int32) (v4 : Int32) (s0 : Int32) (σ : Sg) : Option (Int32) :=
  (X6_digitAt N v4 σ).bind fun r6 => (if s0 = 0 then (if 0 ≤ r6 then (kr v1 v2 v3 (v4 + 1)) else (some v4)) else (if 1 ≤ r6 then (kr v1 v2 v3 (v4 + 1)) else (some v4)))
set_option maxRecDepth 100000 in
set_option maxHeartbeats 4000000 in
theorem X8_faultOfNight_j76_ok {E : Ev}  {N : Nat} {kr : Int32 → Int32 → Int32 → Int32 → Option (Int32)} {σ : Sg}  (hkr : ∀ (v1 : Int32) (v2 : Int32) (v3 : Int32) (v4 : Int32) (r : Int32), kr v1 v2 v3 v4 = some r → Gp E RX8 cX8_faultOfNight (some .int) 6 (2) SH0 σ (some (.int r)) σ 20 [(0, .ref 0), (1, .int v1), (2, .int v2), (3, .int v3), (4, .int v4)] []) {v1 : Int32} {v2 : Int32} {v3 : Int32} {v4 : Int32} {s0 : Int32} {r : Int32} (h : X8_faultOfNight_j76 N  kr v1 v2 v3 v4 s0 σ = some r) : Gp E RX8 cX8_faultOfNight (some .int) 6 (2) SH0 σ (some (.int r)) σ 76 [(0, .ref 0), (1, .int v1), (2, .int v2), (3, .int v3), (4, .int v4)] [.int s0] := by
  intro Z C hE
  unfold X8_faultOfNight_j76 at h
  refine r_istore (pc' := 78) (lv2 := [(5, .int s0), (0, .ref 0), (1, .int v1), (2, .int v2), (3, .int v3), (4, .int v4)]) C dX8_faultOfNight_76 rfl (Nat.le_of_ble_eq_true rfl) rfl ?_
  refine r_aload_n (pc' := 79) C dX8_faultOfNight_78 rfl 1 rfl ?_
  refine r_getR (pc' := 82) C flX8_10 sh_0 rfl dX8_faultOfNight_79 rfl ?_
  refine r_iload (pc' := 84) C dX8_faultOfNight_82 rfl 5 rfl ?_
  obtain ⟨r6, e7, h⟩ := bd h
  refine r_cV1 (pc' := 87) C (X6_digitAt_ok  e7) mlX8_100 ceX6_digitAt cvX6_digitAt sh_1 rfl rfl rfl (Nat.le_of_ble_eq_true rfl) rfl (Nat.le_of_ble_eq_true rfl) dX8_faultOfNight_84 rfl (kk := ?_)
  refine r_iload (pc' := 89) C dX8_faultOfNight_87 rfl 0 rfl ?_
  refine r_if_eq (tgt := 96) (pc' := 92) C dX8_faultOfNight_89 rfl rfl (fun c8 => ?_) (fun c8 => ?_)
  · rw [if_pos c8] at h
    refine r_iconst (pc' := 97) C dX8_faultOfNight_96 rfl kc_0 ?_
    refine r_icmp_ge (tgt := 103) (pc' := 100) C dX8_faultOfNight_97 rfl rfl (fun c9 => ?_) (fun c9 => ?_)
    · rw [if_pos c9] at h
      refine r_iinc (pc' := 106) (v := v4 + 1) (lv2 := [(4, .int (v4 + 1)), (5, .int s0), (0, .ref 0), (1, .int v1), (2, .int v2), (3, .int v3)]) C dX8_faultOfNight_103 rfl 5 rfl rfl (Nat.le_of_ble_eq_true rfl) rfl ?_
      refine r_goto (tgt := 20) C dX8_faultOfNight_106 rfl ?_
      refine r_sub [2, 3, 4, 5, 0] rfl ?_
      exact hkr _ _ _ _ _ h Z C hE
    · rw [if_neg c9] at h
      refine r_iload (pc' := 102) C dX8_faultOfNight_100 rfl 5 rfl ?_
      have h := Option.some.inj h
      subst h
      exact r_ret C rfl dX8_faultOfNight_102 hE
  · rw [if_neg c8] at h
    refine r_iconst (pc' := 93) C dX8_faultOfNight_92 rfl kc_1 ?_
    refine r_goto (tgt := 97) C dX8_faultOfNight_93 rfl ?_
    refine r_icmp_ge (tgt := 103) (pc' := 100) C dX8_faultOfNight_97 rfl rfl (fun c10 => ?_) (fun c10 => ?_)
    · rw [if_pos c10] at h
      refine r_iinc (pc' := 106) (v := v4 + 1) (lv2 := [(4, .int (v4 + 1)), (5, .int s0), (0, .ref 0), (1, .int v1), (2, .int v2), (3, .int v3)]) C dX8_faultOfNight_103 rfl 5 rfl rfl (Nat.le_of_ble_eq_true rfl) rfl ?_
      refine r_goto (tgt := 20) C dX8_faultOfNight_106 rfl ?_
      refine r_sub [2, 3, 4, 5, 0] rfl ?_
      exact hkr _ _ _ _ _ h Z C hE
    · rw [if_neg c10] at h
      refine r_iload (pc' := 102) C dX8_faultOfNight_100 rfl 5 rfl ?_
      have h := Option.some.inj h
      subst h
      exact r_ret C rfl dX8_faultOfNight_102 hE
def X8_faultOfNight_l20 (N : Nat)  (k109 : Int32 → Int32 → Option (Int32)) (σ : Sg) : Nat → Int32 → Int32 → Int32 → Int32 → Option (Int32)
  | 0, _, _, _, _ => none
  | n + 1, v1, v2, v3, v4 =>
    if v1 ≤ v4 then (k109 v1 v3) else (if v3 = 0 then ((X6_at N v4 σ).bind fun r13 => ((X8_digitsBehind N r13 σ).bind fun r15 => (if r15 = 0 then (some v4) else (X8_faultOfNight_l20 N k109 σ n v1 r13 r15 (v4 + 1))))) else (if (v3 + (-1)) = 0 then (if v2 = 108 then (X8_faultOfNight_j76 N (fun v1 v2 v3 v4 => X8_faultOfNight_l20 N k109 σ n v1 v2 v3 v4) v1 v2 (v3 + (-1)) v4 1 σ) else (if v2 = 103 then (X8_faultOfNight_j76 N (fun v1 v2 v3 v4 => X8_faultOfNight_l20 N k109 σ n v1 v2 v3 v4) v1 v2 (v3 + (-1)) v4 1 σ) else (X8_faultOfNight_j76 N (fun v1 v2 v3 v4 => X8_faultOfNight_l20 N k109 σ n v1 v2 v3 v4) v1 v2 (v3 + (-1)) v4 0 σ))) else (X8_faultOfNight_j76 N (fun v1 v2 v3 v4 => X8_faultOfNight_l20 N k109 σ n v1 v2 v3 v4) v1 v2 (v3 + (-1)) v4 0 σ)))
set_option maxRecDepth 100000 in
set_option maxHeartbeats 4000000 in
theorem X8_faultOfNight_l20_ok {E : Ev}  {N : Nat} {k109 : Int32 → Int32 → Option (Int32)} {σ : Sg} (hk109 : ∀ (v1 : Int32) (v3 : Int32) (r : Int32), k109 v1 v3 = some r → Gp E RX8 cX8_faultOfNight (some .int) 6 (2) SH0 σ (some (.int r)) σ 109 [(0, .ref 0), (1, .int v1), (3, .int v3)] []) : ∀ (n : Nat) (v1 : Int32) (v2 : Int32) (v3 : Int32) (v4 : Int32) (r : Int32), X8_faultOfNight_l20 N k109 σ n v1 v2 v3 v4 = some r → Gp E RX8 cX8_faultOfNight (some .int) 6 (2) SH0 σ (some (.int r)) σ 20 [(0, .ref 0), (1, .int v1), (2, .int v2), (3, .int v3), (4, .int v4)] [] := by
  intro n
  induction n with
  | zero => intro v1 v2 v3 v4 r h; cases h
  | succ n ih =>
    intro v1 v2 v3 v4 r h Z C hE
    unfold X8_faultOfNight_l20 at h
    refine r_iload (pc' := 22) C dX8_faultOfNight_20 rfl 4 rfl ?_
    refine r_iload_n (pc' := 23) C dX8_faultOfNight_22 rfl 1 rfl ?_
    refine r_icmp_ge (tgt := 109) (pc' := 26) C dX8_faultOfNight_23 rfl rfl (fun c3 => ?_) (fun c3 => ?_)
    · rw [if_pos c3] at h
      refine r_sub [0, 1, 3] rfl ?_
      exact hk109 _ _ _ h Z C hE
    · rw [if_neg c3] at h
      refine r_iload_n (pc' := 27) C dX8_faultOfNight_26 rfl 3 rfl ?_
      refine r_if_ne (tgt := 52) (pc' := 30) C dX8_faultOfNight_27 rfl rfl (fun c4 => ?_) (fun c4 => ?_)
      · rw [if_neg c4] at h
        refine r_iinc (pc' := 55) (v := v3 + (-1)) (lv2 := [(3, .int (v3 + (-1))), (0, .ref 0), (1, .int v1), (2, .int v2), (4, .int v4)]) C dX8_faultOfNight_52 rfl 3 rfl rfl (Nat.le_of_ble_eq_true rfl) rfl ?_
        refine r_iload_n (pc' := 56) C dX8_faultOfNight_55 rfl 0 rfl ?_
        refine r_if_ne (tgt := 75) (pc' := 59) C dX8_faultOfNight_56 rfl rfl (fun c5 => ?_) (fun c5 => ?_)
        · rw [if_neg c5] at h
          refine r_iconst (pc' := 76) C dX8_faultOfNight_75 rfl kc_0 ?_
          refine r_sub [1, 2, 3, 0, 4] rfl ?_
          exact X8_faultOfNight_j76_ok  ih h Z C hE
        · rw [if_pos c5] at h
          refine r_iload_n (pc' := 60) C dX8_faultOfNight_59 rfl 3 rfl ?_
          refine r_bipush (pc' := 62) C dX8_faultOfNight_60 rfl kb_108 ?_
          refine r_icmp_eq (tgt := 71) (pc' := 65) C dX8_faultOfNight_62 rfl rfl (fun c11 => ?_) (fun c11 => ?_)
          · rw [if_pos c11] at h
            refine r_iconst (pc' := 72) C dX8_faultOfNight_71 rfl kc_1 ?_
            refine r_goto (tgt := 76) C dX8_faultOfNight_72 rfl ?_
            refine r_sub [1, 2, 3, 0, 4] rfl ?_
            exact X8_faultOfNight_j76_ok  ih h Z C hE
          · rw [if_neg c11] at h
            refine r_iload_n (pc' := 66) C dX8_faultOfNight_65 rfl 3 rfl ?_
            refine r_bipush (pc' := 68) C dX8_faultOfNight_66 rfl kb_103 ?_
            refine r_icmp_ne (tgt := 75) (pc' := 71) C dX8_faultOfNight_68 rfl rfl (fun c12 => ?_) (fun c12 => ?_)
            · rw [if_neg c12] at h
              refine r_iconst (pc' := 76) C dX8_faultOfNight_75 rfl kc_0 ?_
              refine r_sub [1, 2, 3, 0, 4] rfl ?_
              exact X8_faultOfNight_j76_ok  ih h Z C hE
            · rw [if_pos c12] at h
              refine r_iconst (pc' := 72) C dX8_faultOfNight_71 rfl kc_1 ?_
              refine r_goto (tgt := 76) C dX8_faultOfNight_72 rfl ?_
              refine r_sub [1, 2, 3, 0, 4] rfl ?_
              exact X8_faultOfNight_j76_ok  ih h Z C hE
      · rw [if_pos c4] at h
        refine r_aload_n (pc' := 31) C dX8_faultOfNight_30 rfl 0 rfl ?_
        refine r_getR (pc' := 34) C flX8_10 sh_0 rfl dX8_faultOfNight_31 rfl ?_
        refine r_iload (pc' := 36) C dX8_faultOfNight_34 rfl 4 rfl ?_
        obtain ⟨r13, e14, h⟩ := bd h
        refine r_cV1 (pc' := 39) C (X6_at_ok  e14) mlX8_231 ceX6_at cvX6_at sh_1 rfl rfl rfl (Nat.le_of_ble_eq_true rfl) rfl (Nat.le_of_ble_eq_true rfl) dX8_faultOfNight_36 rfl (kk := ?_)
        refine r_istore_n (pc' := 40) (lv2 := [(2, .int r13), (0, .ref 0), (1, .int v1), (3, .int v3), (4, .int v4)]) C dX8_faultOfNight_39 rfl rfl (Nat.le_of_ble_eq_true rfl) rfl ?_
        refine r_iload_n (pc' := 41) C dX8_faultOfNight_40 rfl 0 rfl ?_
        obtain ⟨r15, e16, h⟩ := bd h
        refine r_cS1 (pc' := 44) C (X8_digitsBehind_ok  e16) mlX8_235 ceX8_digitsBehind csX8_digitsBehind rfl (Nat.le_of_ble_eq_true rfl) rfl (Nat.le_of_ble_eq_true rfl) dX8_faultOfNight_41 rfl (kk := ?_)
        refine r_istore_n (pc' := 45) (lv2 := [(3, .int r15), (2, .int r13), (0, .ref 0), (1, .int v1), (4, .int v4)]) C dX8_faultOfNight_44 rfl rfl (Nat.le_of_ble_eq_true rfl) rfl ?_
        refine r_iload_n (pc' := 46) C dX8_faultOfNight_45 rfl 0 rfl ?_
        refine r_if_ne (tgt := 103) (pc' := 49) C dX8_faultOfNight_46 rfl rfl (fun c17 => ?_) (fun c17 => ?_)
        · rw [if_neg c17] at h
          refine r_iinc (pc' := 106) (v := v4 + 1) (lv2 := [(4, .int (v4 + 1)), (3, .int r15), (2, .int r13), (0, .ref 0), (1, .int v1)]) C dX8_faultOfNight_103 rfl 4 rfl rfl (Nat.le_of_ble_eq_true rfl) rfl ?_
          refine r_goto (tgt := 20) C dX8_faultOfNight_106 rfl ?_
          refine r_sub [3, 4, 2, 1, 0] rfl ?_
          exact ih _ _ _ _ _ h Z C hE
        · rw [if_pos c17] at h
          refine r_iload (pc' := 51) C dX8_faultOfNight_49 rfl 4 rfl ?_
          have h := Option.some.inj h
          subst h
          exact r_ret C rfl dX8_faultOfNight_51 hE
def X8_faultOfNight_j109 (N : Nat)   (v1 : Int32) (v3 : Int32) (σ : Sg) : Option (Int32) :=
  if 60 < (gi σ 1 1) then (some v1) else (if v3 ≤ 0 then (some (-1)) else (some v1))
set_option maxRecDepth 100000 in
set_option maxHeartbeats 4000000 in
theorem X8_faultOfNight_j109_ok {E : Ev}  {N : Nat}  {σ : Sg}   {v1 : Int32} {v3 : Int32} {r : Int32} (h : X8_faultOfNight_j109 N   v1 v3 σ = some r) : Gp E RX8 cX8_faultOfNight (some .int) 6 (2) SH0 σ (some (.int r)) σ 109 [(0, .ref 0), (1, .int v1), (3, .int v3)] [] := by
  intro Z C hE
  unfold X8_faultOfNight_j109 at h
  refine r_aload_n (pc' := 110) C dX8_faultOfNight_109 rfl 0 rfl ?_
  refine r_getR (pc' := 113) C flX8_10 sh_0 rfl dX8_faultOfNight_110 rfl ?_
  refine r_getI (pc' := 116) C flX8_96 sh_1 rfl dX8_faultOfNight_113 rfl ?_
  refine r_bipush (pc' := 118) C dX8_faultOfNight_116 rfl kb_60 ?_
  refine r_icmp_gt (tgt := 125) (pc' := 121) C dX8_faultOfNight_118 rfl rfl (fun c18 => ?_) (fun c18 => ?_)
  · rw [if_pos c18] at h
    refine r_iload_n (pc' := 126) C dX8_faultOfNight_125 rfl 1 rfl ?_
    refine r_goto (tgt := 130) C dX8_faultOfNight_126 rfl ?_
    have h := Option.some.inj h
    subst h
    exact r_ret C rfl dX8_faultOfNight_130 hE
  · rw [if_neg c18] at h
    refine r_iload_n (pc' := 122) C dX8_faultOfNight_121 rfl 2 rfl ?_
    refine r_if_le (tgt := 129) (pc' := 125) C dX8_faultOfNight_122 rfl rfl (fun c19 => ?_) (fun c19 => ?_)
    · rw [if_pos c19] at h
      refine r_iconst (pc' := 130) C dX8_faultOfNight_129 rfl kc_m1 ?_
      have h := Option.some.inj h
      subst h
      exact r_ret C rfl dX8_faultOfNight_130 hE
    · rw [if_neg c19] at h
      refine r_iload_n (pc' := 126) C dX8_faultOfNight_125 rfl 1 rfl ?_
      refine r_goto (tgt := 130) C dX8_faultOfNight_126 rfl ?_
      have h := Option.some.inj h
      subst h
      exact r_ret C rfl dX8_faultOfNight_130 hE
def X8_faultOfNight (N : Nat)   (σ : Sg) : Option (Int32) :=
  (J9_min_7cf53 N (gi σ 1 1) 60 σ).bind fun r1 => (X8_faultOfNight_l20 N (fun v1 v3 => X8_faultOfNight_j109 N v1 v3 σ) σ N r1 0 0 0)
set_option maxRecDepth 100000 in
set_option maxHeartbeats 4000000 in
theorem X8_faultOfNight_ok {E : Ev}  {N : Nat}  {σ : Sg} {r : Int32} (h : X8_faultOfNight N   σ = some r) : Cm E (2) yX8_faultOfNight cX8_faultOfNight 6 (some .int) [.ref 0] SH0 SH0 σ σ (some (.int r)) 0 0 := by
  refine Cm.intro (by decide +kernel) (Nat.le_of_ble_eq_true rfl) (fun _ h => by obtain ⟨_, _, _, _, _, _, h⟩ := h; exact h) (fun Z C hE => ?_)
  show Wm E Z 0 0 SH0 σ 0 [(0, .ref 0)] []
  unfold X8_faultOfNight at h
  refine r_aload_n (pc' := 1) C dX8_faultOfNight_0 rfl 0 rfl ?_
  refine r_getR (pc' := 4) C flX8_10 sh_0 rfl dX8_faultOfNight_1 rfl ?_
  refine r_getI (pc' := 7) C flX8_96 sh_1 rfl dX8_faultOfNight_4 rfl ?_
  refine r_bipush (pc' := 9) C dX8_faultOfNight_7 rfl kb_60 ?_
  obtain ⟨r1, e2, h⟩ := bd h
  refine r_cS1 (pc' := 12) C (J9_min_7cf53_ok  e2) mlX8_310 ceJ9_min_7cf53 csJ9_min_7cf53 rfl (Nat.le_of_ble_eq_true rfl) rfl (Nat.le_of_ble_eq_true rfl) dX8_faultOfNight_9 rfl (kk := ?_)
  refine r_istore_n (pc' := 13) (lv2 := [(1, .int r1), (0, .ref 0)]) C dX8_faultOfNight_12 rfl rfl (Nat.le_of_ble_eq_true rfl) rfl ?_
  refine r_iconst (pc' := 14) C dX8_faultOfNight_13 rfl kc_0 ?_
  refine r_istore_n (pc' := 15) (lv2 := [(2, .int 0), (1, .int r1), (0, .ref 0)]) C dX8_faultOfNight_14 rfl rfl (Nat.le_of_ble_eq_true rfl) rfl ?_
  refine r_iconst (pc' := 16) C dX8_faultOfNight_15 rfl kc_0 ?_
  refine r_istore_n (pc' := 17) (lv2 := [(3, .int 0), (2, .int 0), (1, .int r1), (0, .ref 0)]) C dX8_faultOfNight_16 rfl rfl (Nat.le_of_ble_eq_true rfl) rfl ?_
  refine r_iconst (pc' := 18) C dX8_faultOfNight_17 rfl kc_0 ?_
  refine r_istore (pc' := 20) (lv2 := [(4, .int 0), (3, .int 0), (2, .int 0), (1, .int r1), (0, .ref 0)]) C dX8_faultOfNight_18 rfl (Nat.le_of_ble_eq_true rfl) rfl ?_
  refine r_sub [4, 3, 2, 1, 0] rfl ?_
  exact X8_faultOfNight_l20_ok  (fun _ _ _ h Z C hE => by exact X8_faultOfNight_j109_ok  h Z C hE) N _ _ _ _ _ h Z C hE

/-! BorrowedWeight.act(I)I -/
def X8_act (N : Nat)  (v1 : Int32) (σ : Sg) : Option (Int32 × Sg) :=
  (X6_digitAt N (v1 + 1) σ).bind fun r1 => ((X6_digitAt N (v1 + 2) σ).bind fun r3 => ((X6_at N v1 σ).bind fun r5 => (if r5 = 103 then ((X0_takeBack N 19 r1 r3 σ).bind fun r8 => (some (r8.1, r8.2))) else if r5 = 108 then ((X0_lend N 19 r1 r3 σ).bind fun r11 => (some (r11.1, r11.2))) else if r5 = 110 then ((X0_passHours N 19 r1 σ).bind fun r14 => (some (r14.1, r14.2))) else if r5 = 116 then ((X0_tieOrCut N 19 r1 r3 σ).bind fun r17 => (some (r17.1, r17.2))) else ((X0_takeDebt N 19 r1 σ).bind fun r19 => (some (r19.1, r19.2))))))
set_option maxRecDepth 100000 in
set_option maxHeartbeats 4000000 in
theorem X8_act_ok {E : Ev}  {N : Nat} {v1 : Int32} {σ : Sg} {r : Int32 × Sg} (h : X8_act N  v1 σ = some r) : Cm E (5) yX8_act cX8_act 4 (some .int) [.ref 0, .int v1] SH0 SH0 σ r.2 (some (.int r.1)) 0 0 := by
  refine Cm.intro (by decide +kernel) (Nat.le_of_ble_eq_true rfl) (fun _ h => by obtain ⟨_, _, _, _, _, _, h⟩ := h; exact h) (fun Z C hE => ?_)
  show Wm E Z 0 0 SH0 σ 0 [(0, .ref 0), (1, .int v1)] []
  unfold X8_act at h
  refine r_aload_n (pc' := 1) C dX8_act_0 rfl 0 rfl ?_
  refine r_getR (pc' := 4) C flX8_10 sh_0 rfl dX8_act_1 rfl ?_
  refine r_iload_n (pc' := 5) C dX8_act_4 rfl 1 rfl ?_
  refine r_iconst (pc' := 6) C dX8_act_5 rfl kc_1 ?_
  refine r_iadd (pc' := 7) C dX8_act_6 rfl ?_
  obtain ⟨r1, e2, h⟩ := bd h
  refine r_cV1 (pc' := 10) C (X6_digitAt_ok  e2) mlX8_100 ceX6_digitAt cvX6_digitAt sh_1 rfl rfl rfl (Nat.le_of_ble_eq_true rfl) rfl (Nat.le_of_ble_eq_true rfl) dX8_act_7 rfl (kk := ?_)
  refine r_istore_n (pc' := 11) (lv2 := [(2, .int r1), (0, .ref 0), (1, .int v1)]) C dX8_act_10 rfl rfl (Nat.le_of_ble_eq_true rfl) rfl ?_
  refine r_aload_n (pc' := 12) C dX8_act_11 rfl 1 rfl ?_
  refine r_getR (pc' := 15) C flX8_10 sh_0 rfl dX8_act_12 rfl ?_
  refine r_iload_n (pc' := 16) C dX8_act_15 rfl 2 rfl ?_
  refine r_iconst (pc' := 17) C dX8_act_16 rfl kc_2 ?_
  refine r_iadd (pc' := 18) C dX8_act_17 rfl ?_
  obtain ⟨r3, e4, h⟩ := bd h
  refine r_cV1 (pc' := 21) C (X6_digitAt_ok  e4) mlX8_100 ceX6_digitAt cvX6_digitAt sh_1 rfl rfl rfl (Nat.le_of_ble_eq_true rfl) rfl (Nat.le_of_ble_eq_true rfl) dX8_act_18 rfl (kk := ?_)
  refine r_istore_n (pc' := 22) (lv2 := [(3, .int r3), (2, .int r1), (0, .ref 0), (1, .int v1)]) C dX8_act_21 rfl rfl (Nat.le_of_ble_eq_true rfl) rfl ?_
  refine r_aload_n (pc' := 23) C dX8_act_22 rfl 2 rfl ?_
  refine r_getR (pc' := 26) C flX8_10 sh_0 rfl dX8_act_23 rfl ?_
  refine r_iload_n (pc' := 27) C dX8_act_26 rfl 3 rfl ?_
  obtain ⟨r5, e6, h⟩ := bd h
  refine r_cV1 (pc' := 30) C (X6_at_ok  e6) mlX8_231 ceX6_at cvX6_at sh_1 rfl rfl rfl (Nat.le_of_ble_eq_true rfl) rfl (Nat.le_of_ble_eq_true rfl) dX8_act_27 rfl (kk := ?_)
  by_cases c7 : r5 = 103
  · rw [if_pos c7] at h
    refine r_look (tgt := 99) C dX8_act_30 rfl (by first | (rw [c7]; done) | (rw [c7]; rfl)) rfl ?_
    refine r_aload_n (pc' := 100) C dX8_act_99 rfl 2 rfl ?_
    refine r_getR (pc' := 103) C flX8_26 sh_0 rfl dX8_act_100 rfl ?_
    refine r_aload_n (pc' := 104) C dX8_act_103 rfl 2 rfl ?_
    refine r_getR (pc' := 107) C flX8_33 sh_0 rfl dX8_act_104 rfl ?_
    refine r_iload_n (pc' := 108) C dX8_act_107 rfl 1 rfl ?_
    refine r_iload_n (pc' := 109) C dX8_act_108 rfl 0 rfl ?_
    obtain ⟨r8, e9, h⟩ := bd h
    refine r_cV1 (pc' := 112) C (X0_takeBack_ok stc_19 e9) mlX8_213 ceX0_takeBack cvX0_takeBack sh_5 rfl rfl rfl (Nat.le_of_ble_eq_true rfl) rfl (Nat.le_of_ble_eq_true rfl) dX8_act_109 rfl (kk := ?_)
    have h := Option.some.inj h
    subst h
    exact r_ret C rfl dX8_act_112 hE
  rw [if_neg c7] at h
  by_cases c10 : r5 = 108
  · rw [if_pos c10] at h
    refine r_look (tgt := 85) C dX8_act_30 rfl (by first | (rw [c10]; done) | (rw [c10]; rfl)) rfl ?_
    refine r_aload_n (pc' := 86) C dX8_act_85 rfl 2 rfl ?_
    refine r_getR (pc' := 89) C flX8_26 sh_0 rfl dX8_act_86 rfl ?_
    refine r_aload_n (pc' := 90) C dX8_act_89 rfl 2 rfl ?_
    refine r_getR (pc' := 93) C flX8_33 sh_0 rfl dX8_act_90 rfl ?_
    refine r_iload_n (pc' := 94) C dX8_act_93 rfl 1 rfl ?_
    refine r_iload_n (pc' := 95) C dX8_act_94 rfl 0 rfl ?_
    obtain ⟨r11, e12, h⟩ := bd h
    refine r_cV1 (pc' := 98) C (X0_lend_ok stc_19 e12) mlX8_206 ceX0_lend cvX0_lend sh_5 rfl rfl rfl (Nat.le_of_ble_eq_true rfl) rfl (Nat.le_of_ble_eq_true rfl) dX8_act_95 rfl (kk := ?_)
    have h := Option.some.inj h
    subst h
    exact r_ret C rfl dX8_act_98 hE
  rw [if_neg c10] at h
  by_cases c13 : r5 = 110
  · rw [if_pos c13] at h
    refine r_look (tgt := 72) C dX8_act_30 rfl (by first | (rw [c13]; done) | (rw [c13]; rfl)) rfl ?_
    refine r_aload_n (pc' := 73) C dX8_act_72 rfl 2 rfl ?_
    refine r_getR (pc' := 76) C flX8_26 sh_0 rfl dX8_act_73 rfl ?_
    refine r_aload_n (pc' := 77) C dX8_act_76 rfl 2 rfl ?_
    refine r_getR (pc' := 80) C flX8_33 sh_0 rfl dX8_act_77 rfl ?_
    refine r_iload_n (pc' := 81) C dX8_act_80 rfl 1 rfl ?_
    obtain ⟨r14, e15, h⟩ := bd h
    refine r_cV1 (pc' := 84) C (X0_passHours_ok stc_19 e15) mlX8_194 ceX0_passHours cvX0_passHours sh_5 rfl rfl rfl (Nat.le_of_ble_eq_true rfl) rfl (Nat.le_of_ble_eq_true rfl) dX8_act_81 rfl (kk := ?_)
    have h := Option.some.inj h
    subst h
    exact r_ret C rfl dX8_act_84 hE
  rw [if_neg c13] at h
  by_cases c16 : r5 = 116
  · rw [if_pos c16] at h
    refine r_look (tgt := 113) C dX8_act_30 rfl (by first | (rw [c16]; done) | (rw [c16]; rfl)) rfl ?_
    refine r_aload_n (pc' := 114) C dX8_act_113 rfl 2 rfl ?_
    refine r_getR (pc' := 117) C flX8_26 sh_0 rfl dX8_act_114 rfl ?_
    refine r_aload_n (pc' := 118) C dX8_act_117 rfl 2 rfl ?_
    refine r_getR (pc' := 121) C flX8_33 sh_0 rfl dX8_act_118 rfl ?_
    refine r_iload_n (pc' := 122) C dX8_act_121 rfl 1 rfl ?_
    refine r_iload_n (pc' := 123) C dX8_act_122 rfl 0 rfl ?_
    obtain ⟨r17, e18, h⟩ := bd h
    refine r_cV1 (pc' := 126) C (X0_tieOrCut_ok stc_19 e18) mlX8_216 ceX0_tieOrCut cvX0_tieOrCut sh_5 rfl rfl rfl (Nat.le_of_ble_eq_true rfl) rfl (Nat.le_of_ble_eq_true rfl) dX8_act_123 rfl (kk := ?_)
    have h := Option.some.inj h
    subst h
    exact r_ret C rfl dX8_act_126 hE
  rw [if_neg c16] at h
  refine r_look (tgt := 127) C dX8_act_30 rfl (look_out (List.forall_mem_cons.mpr ⟨c7, (List.forall_mem_cons.mpr ⟨c10, (List.forall_mem_cons.mpr ⟨c13, (List.forall_mem_cons.mpr ⟨c16, (fun _ h => nomatch h)⟩)⟩)⟩)⟩)) rfl ?_
  refine r_aload_n (pc' := 128) C dX8_act_127 rfl 2 rfl ?_
  refine r_getR (pc' := 131) C flX8_26 sh_0 rfl dX8_act_128 rfl ?_
  refine r_aload_n (pc' := 132) C dX8_act_131 rfl 2 rfl ?_
  refine r_getR (pc' := 135) C flX8_33 sh_0 rfl dX8_act_132 rfl ?_
  refine r_iload_n (pc' := 136) C dX8_act_135 rfl 1 rfl ?_
  obtain ⟨r19, e20, h⟩ := bd h
  refine r_cV1 (pc' := 139) C (X0_takeDebt_ok stc_19 e20) mlX8_219 ceX0_takeDebt cvX0_takeDebt sh_5 rfl rfl rfl (Nat.le_of_ble_eq_true rfl) rfl (Nat.le_of_ble_eq_true rfl) dX8_act_136 rfl (kk := ?_)
  have h := Option.some.inj h
  subst h
  exact r_ret C rfl dX8_act_139 hE

/-! BorrowedWeight.night()I -/
def X8_night_j72 (N : Nat)  (kr : Int32 → Int32 → Int32 → Sg → Option (Int32 × Sg)) (v2 : Int32) (v3 : Int32) (v4 : Int32) (σ : Sg) : Option (Int32 × Sg) :=
  (X6_at N v4 σ).bind fun r11 => ((X8_digitsBehind N r11 σ).bind fun r13 => (kr v2 v3 (v4 + (1 + r13)) σ))
set_option maxRecDepth 100000 in
set_option maxHeartbeats 4000000 in
theorem X8_night_j72_ok {E : Ev}  {N : Nat} {kr : Int32 → Int32 → Int32 → Sg → Option (Int32 × Sg)}  (hkr : ∀ (v2 : Int32) (v3 : Int32) (v4 : Int32) (σ : Sg) (r : Int32 × Sg), kr v2 v3 v4 σ = some r → Gp E RX8 cX8_night (some .int) 5 (6) SH0 r.2 (some (.int r.1)) σ 39 [(0, .ref 0), (2, .int v2), (3, .int v3), (4, .int v4)] []) {v2 : Int32} {v3 : Int32} {v4 : Int32} {σ : Sg} {r : Int32 × Sg} (h : X8_night_j72 N  kr v2 v3 v4 σ = some r) : Gp E RX8 cX8_night (some .int) 5 (6) SH0 r.2 (some (.int r.1)) σ 72 [(0, .ref 0), (2, .int v2), (3, .int v3), (4, .int v4)] [] := by
  intro Z C hE
  unfold X8_night_j72 at h
  refine r_iload (pc' := 74) C dX8_night_72 rfl 3 rfl ?_
  refine r_iconst (pc' := 75) C dX8_night_74 rfl kc_1 ?_
  refine r_aload_n (pc' := 76) C dX8_night_75 rfl 0 rfl ?_
  refine r_getR (pc' := 79) C flX8_10 sh_0 rfl dX8_night_76 rfl ?_
  refine r_iload (pc' := 81) C dX8_night_79 rfl 3 rfl ?_
  obtain ⟨r11, e12, h⟩ := bd h
  refine r_cV1 (pc' := 84) C (X6_at_ok  e12) mlX8_231 ceX6_at cvX6_at sh_1 rfl rfl rfl (Nat.le_of_ble_eq_true rfl) rfl (Nat.le_of_ble_eq_true rfl) dX8_night_81 rfl (kk := ?_)
  obtain ⟨r13, e14, h⟩ := bd h
  refine r_cS1 (pc' := 87) C (X8_digitsBehind_ok  e14) mlX8_235 ceX8_digitsBehind csX8_digitsBehind rfl (Nat.le_of_ble_eq_true rfl) rfl (Nat.le_of_ble_eq_true rfl) dX8_night_84 rfl (kk := ?_)
  refine r_iadd (pc' := 88) C dX8_night_87 rfl ?_
  refine r_iadd (pc' := 89) C dX8_night_88 rfl ?_
  refine r_istore (pc' := 91) (lv2 := [(4, .int (v4 + (1 + r13))), (0, .ref 0), (2, .int v2), (3, .int v3)]) C dX8_night_89 rfl (Nat.le_of_ble_eq_true rfl) rfl ?_
  refine r_goto (tgt := 39) C dX8_night_91 rfl ?_
  refine r_sub [1, 2, 3, 0] rfl ?_
  exact hkr _ _ _ _ _ h Z C hE
def X8_night_l39 (N : Nat)  (k94 : Int32 → Int32 → Sg → Option (Int32 × Sg))  : Nat → Int32 → Int32 → Int32 → Sg → Option (Int32 × Sg)
  | 0, _, _, _, _ => none
  | n + 1, v2, v3, v4, σ =>
    if (gi σ 1 1) ≤ v4 then (k94 v2 v3 σ) else (if v3 = 0 then ((X8_act N v4 σ).bind fun r8 => (if 0 ≤ r8.1 then (X8_night_j72 N (fun v2 v3 v4 σ => X8_night_l39 N k94 n v2 v3 v4 σ) (v2 + 1) v3 v4 r8.2) else (X8_night_j72 N (fun v2 v3 v4 σ => X8_night_l39 N k94 n v2 v3 v4 σ) v2 1 v4 r8.2))) else (k94 v2 v3 σ))
set_option maxRecDepth 100000 in
set_option maxHeartbeats 4000000 in
theorem X8_night_l39_ok {E : Ev}  {N : Nat} {k94 : Int32 → Int32 → Sg → Option (Int32 × Sg)}  (hk94 : ∀ (v2 : Int32) (v3 : Int32) (σ : Sg) (r : Int32 × Sg), k94 v2 v3 σ = some r → Gp E RX8 cX8_night (some .int) 5 (6) SH0 r.2 (some (.int r.1)) σ 94 [(0, .ref 0), (2, .int v2), (3, .int v3)] []) : ∀ (n : Nat) (v2 : Int32) (v3 : Int32) (v4 : Int32) (σ : Sg) (r : Int32 × Sg), X8_night_l39 N k94 n v2 v3 v4 σ = some r → Gp E RX8 cX8_night (some .int) 5 (6) SH0 r.2 (some (.int r.1)) σ 39 [(0, .ref 0), (2, .int v2), (3, .int v3), (4, .int v4)] [] := by
  intro n
  induction n with
  | zero => intro v2 v3 v4 σ r h; cases h
  | succ n ih =>
    intro v2 v3 v4 σ r h Z C hE
    unfold X8_night_l39 at h
    refine r_iload (pc' := 41) C dX8_night_39 rfl 3 rfl ?_
    refine r_aload_n (pc' := 42) C dX8_night_41 rfl 0 rfl ?_
    refine r_getR (pc' := 45) C flX8_10 sh_0 rfl dX8_night_42 rfl ?_
    refine r_getI (pc' := 48) C flX8_96 sh_1 rfl dX8_night_45 rfl ?_
    refine r_icmp_ge (tgt := 94) (pc' := 51) C dX8_night_48 rfl rfl (fun c6 => ?_) (fun c6 => ?_)
    · rw [if_pos c6] at h
      refine r_sub [0, 1, 2] rfl ?_
      exact hk94 _ _ _ _ h Z C hE
    · rw [if_neg c6] at h
      refine r_iload_n (pc' := 52) C dX8_night_51 rfl 2 rfl ?_
      refine r_if_ne (tgt := 94) (pc' := 55) C dX8_night_52 rfl rfl (fun c7 => ?_) (fun c7 => ?_)
      · rw [if_neg c7] at h
        refine r_sub [0, 1, 2] rfl ?_
        exact hk94 _ _ _ _ h Z C hE
      · rw [if_pos c7] at h
        refine r_aload_n (pc' := 56) C dX8_night_55 rfl 0 rfl ?_
        refine r_iload (pc' := 58) C dX8_night_56 rfl 3 rfl ?_
        obtain ⟨r8, e9, h⟩ := bd h
        refine r_cV1 (pc' := 61) C (X8_act_ok  e9) mlX8_228 ceX8_act cvX8_act sh_0 rfl rfl rfl (Nat.le_of_ble_eq_true rfl) rfl (Nat.le_of_ble_eq_true rfl) dX8_night_58 rfl (kk := ?_)
        refine r_if_ge (tgt := 69) (pc' := 64) C dX8_night_61 rfl rfl (fun c10 => ?_) (fun c10 => ?_)
        · rw [if_pos c10] at h
          refine r_iinc (pc' := 72) (v := v2 + 1) (lv2 := [(2, .int (v2 + 1)), (0, .ref 0), (3, .int v3), (4, .int v4)]) C dX8_night_69 rfl 1 rfl rfl (Nat.le_of_ble_eq_true rfl) rfl ?_
          refine r_sub [1, 0, 2, 3] rfl ?_
          exact X8_night_j72_ok  ih h Z C hE
        · rw [if_neg c10] at h
          refine r_iconst (pc' := 65) C dX8_night_64 rfl kc_1 ?_
          refine r_istore_n (pc' := 66) (lv2 := [(3, .int 1), (0, .ref 0), (2, .int v2), (4, .int v4)]) C dX8_night_65 rfl rfl (Nat.le_of_ble_eq_true rfl) rfl ?_
          refine r_goto (tgt := 72) C dX8_night_66 rfl ?_
          refine r_sub [1, 2, 0, 3] rfl ?_
          exact X8_night_j72_ok  ih h Z C hE
def X8_night_j125 (N : Nat)   (v2 : Int32) (s0 : Int64) (σ : Sg) : Option (Int32 × Sg) :=
  (X2_tell_ N s0 ((gi σ 19 5).toInt64) σ).bind fun r19 => (some (v2, r19))
set_option maxRecDepth 100000 in
set_option maxHeartbeats 4000000 in
theorem X8_night_j125_ok {E : Ev}  {N : Nat}    {v2 : Int32} {s0 : Int64} {σ : Sg} {r : Int32 × Sg} (h : X8_night_j125 N   v2 s0 σ = some r) : Gp E RX8 cX8_night (some .int) 5 (6) SH0 r.2 (some (.int r.1)) σ 125 [(0, .ref 0), (2, .int v2)] [.long s0, .ref 3] := by
  intro Z C hE
  unfold X8_night_j125 at h
  refine r_aload_n (pc' := 126) C dX8_night_125 rfl 0 rfl ?_
  refine r_getR (pc' := 129) C flX8_33 sh_0 rfl dX8_night_126 rfl ?_
  refine r_getI (pc' := 132) C flX8_222 sh_19 rfl dX8_night_129 rfl ?_
  refine r_i2l (pc' := 133) C dX8_night_132 rfl rfl ?_
  obtain ⟨r19, e20, h⟩ := bd h
  refine r_cV0 (pc' := 136) C (X2_tell__ok  e20) mlX8_198 ceX2_tell_ cvX2_tell_ sh_3 rfl rfl rfl (Nat.le_of_ble_eq_true rfl) rfl (Nat.le_of_ble_eq_true rfl) dX8_night_133 rfl (kk := ?_)
  refine r_iload_n (pc' := 137) C dX8_night_136 rfl 1 rfl ?_
  have h := Option.some.inj h
  subst h
  exact r_ret C rfl dX8_night_137 hE
def X8_night_j105 (N : Nat)   (v2 : Int32) (v3 : Int32) (σ : Sg) : Option (Int32 × Sg) :=
  (X6_clear N σ).bind fun r16 => (if v3 = 0 then (X8_night_j125 N v2 0 r16) else (X8_night_j125 N v2 1 r16))
set_option maxRecDepth 100000 in
set_option maxHeartbeats 4000000 in
theorem X8_night_j105_ok {E : Ev}  {N : Nat}    {v2 : Int32} {v3 : Int32} {σ : Sg} {r : Int32 × Sg} (h : X8_night_j105 N   v2 v3 σ = some r) : Gp E RX8 cX8_night (some .int) 5 (6) SH0 r.2 (some (.int r.1)) σ 105 [(0, .ref 0), (2, .int v2), (3, .int v3)] [] := by
  intro Z C hE
  unfold X8_night_j105 at h
  refine r_aload_n (pc' := 106) C dX8_night_105 rfl 0 rfl ?_
  refine r_getR (pc' := 109) C flX8_10 sh_0 rfl dX8_night_106 rfl ?_
  obtain ⟨r16, e17, h⟩ := bd h
  refine r_cV0 (pc' := 112) C (X6_clear_ok  e17) mlX8_111 ceX6_clear cvX6_clear sh_1 rfl rfl rfl (Nat.le_of_ble_eq_true rfl) rfl (Nat.le_of_ble_eq_true rfl) dX8_night_109 rfl (kk := ?_)
  refine r_aload_n (pc' := 113) C dX8_night_112 rfl 0 rfl ?_
  refine r_getR (pc' := 116) C flX8_19 sh_0 rfl dX8_night_113 rfl ?_
  refine r_iload_n (pc' := 117) C dX8_night_116 rfl 2 rfl ?_
  refine r_if_eq (tgt := 124) (pc' := 120) C dX8_night_117 rfl rfl (fun c18 => ?_) (fun c18 => ?_)
  · rw [if_pos c18] at h
    refine r_lconst (pc' := 125) C dX8_night_124 rfl kl_0 ?_
    refine r_sub [0, 1] rfl ?_
    exact X8_night_j125_ok  h Z C hE
  · rw [if_neg c18] at h
    refine r_lconst (pc' := 121) C dX8_night_120 rfl kl_1 ?_
    refine r_goto (tgt := 125) C dX8_night_121 rfl ?_
    refine r_sub [0, 1] rfl ?_
    exact X8_night_j125_ok  h Z C hE
def X8_night_j94 (N : Nat)   (v2 : Int32) (v3 : Int32) (σ : Sg) : Option (Int32 × Sg) :=
  if v2 ≤ 0 then (X8_night_j105 N v2 v3 σ) else ((X1_commit N σ).bind fun r21 => (X8_night_j105 N v2 v3 r21))
set_option maxRecDepth 100000 in
set_option maxHeartbeats 4000000 in
theorem X8_night_j94_ok {E : Ev}  {N : Nat}    {v2 : Int32} {v3 : Int32} {σ : Sg} {r : Int32 × Sg} (h : X8_night_j94 N   v2 v3 σ = some r) : Gp E RX8 cX8_night (some .int) 5 (6) SH0 r.2 (some (.int r.1)) σ 94 [(0, .ref 0), (2, .int v2), (3, .int v3)] [] := by
  intro Z C hE
  unfold X8_night_j94 at h
  refine r_iload_n (pc' := 95) C dX8_night_94 rfl 1 rfl ?_
  refine r_if_le (tgt := 105) (pc' := 98) C dX8_night_95 rfl rfl (fun c15 => ?_) (fun c15 => ?_)
  · rw [if_pos c15] at h
    exact X8_night_j105_ok  h Z C hE
  · rw [if_neg c15] at h
    refine r_aload_n (pc' := 99) C dX8_night_98 rfl 0 rfl ?_
    refine r_getR (pc' := 102) C flX8_43 sh_0 rfl dX8_night_99 rfl ?_
    obtain ⟨r21, e22, h⟩ := bd h
    refine r_cV0 (pc' := 105) C (X1_commit_ok  e22) mlX8_122 ceX1_commit cvX1_commit sh_29 rfl rfl rfl (Nat.le_of_ble_eq_true rfl) rfl (Nat.le_of_ble_eq_true rfl) dX8_night_102 rfl (kk := ?_)
    exact X8_night_j105_ok  h Z C hE
def X8_night (N : Nat)   (σ : Sg) : Option (Int32 × Sg) :=
  (X8_faultOfNight N σ).bind fun r1 => (if r1 = (-1) then ((X1_draw N 19 σ).bind fun r4 => (X8_night_l39 N (fun v2 v3 σ => X8_night_j94 N v2 v3 σ) N 0 0 0 r4)) else ((X6_clear N σ).bind fun r23 => (some ((-1) - r1, r23))))
set_option maxRecDepth 100000 in
set_option maxHeartbeats 4000000 in
theorem X8_night_ok {E : Ev}  {N : Nat}  {σ : Sg} {r : Int32 × Sg} (h : X8_night N   σ = some r) : Cm E (6) yX8_night cX8_night 5 (some .int) [.ref 0] SH0 SH0 σ r.2 (some (.int r.1)) 0 0 := by
  refine Cm.intro (by decide +kernel) (Nat.le_of_ble_eq_true rfl) (fun _ h => by obtain ⟨_, _, _, _, _, _, h⟩ := h; exact h) (fun Z C hE => ?_)
  show Wm E Z 0 0 SH0 σ 0 [(0, .ref 0)] []
  unfold X8_night at h
  refine r_aload_n (pc' := 1) C dX8_night_0 rfl 0 rfl ?_
  obtain ⟨r1, e2, h⟩ := bd h
  refine r_cV1 (pc' := 4) C (X8_faultOfNight_ok  e2) mlX8_225 ceX8_faultOfNight cvX8_faultOfNight sh_0 rfl rfl rfl (Nat.le_of_ble_eq_true rfl) rfl (Nat.le_of_ble_eq_true rfl) dX8_night_1 rfl (kk := ?_)
  refine r_istore_n (pc' := 5) (lv2 := [(1, .int r1), (0, .ref 0)]) C dX8_night_4 rfl rfl (Nat.le_of_ble_eq_true rfl) rfl ?_
  refine r_iload_n (pc' := 6) C dX8_night_5 rfl 0 rfl ?_
  refine r_iconst (pc' := 7) C dX8_night_6 rfl kc_m1 ?_
  refine r_icmp_eq (tgt := 21) (pc' := 10) C dX8_night_7 rfl rfl (fun c3 => ?_) (fun c3 => ?_)
  · rw [if_pos c3] at h
    refine r_aload_n (pc' := 22) C dX8_night_21 rfl 1 rfl ?_
    refine r_getR (pc' := 25) C flX8_43 sh_0 rfl dX8_night_22 rfl ?_
    refine r_aload_n (pc' := 26) C dX8_night_25 rfl 1 rfl ?_
    refine r_getR (pc' := 29) C flX8_33 sh_0 rfl dX8_night_26 rfl ?_
    obtain ⟨r4, e5, h⟩ := bd h
    refine r_cV0 (pc' := 32) C (X1_draw_ok stc_19 e5) mlX8_115 ceX1_draw cvX1_draw sh_29 rfl rfl rfl (Nat.le_of_ble_eq_true rfl) rfl (Nat.le_of_ble_eq_true rfl) dX8_night_29 rfl (kk := ?_)
    refine r_iconst (pc' := 33) C dX8_night_32 rfl kc_0 ?_
    refine r_istore_n (pc' := 34) (lv2 := [(2, .int 0), (1, .int r1), (0, .ref 0)]) C dX8_night_33 rfl rfl (Nat.le_of_ble_eq_true rfl) rfl ?_
    refine r_iconst (pc' := 35) C dX8_night_34 rfl kc_0 ?_
    refine r_istore_n (pc' := 36) (lv2 := [(3, .int 0), (2, .int 0), (1, .int r1), (0, .ref 0)]) C dX8_night_35 rfl rfl (Nat.le_of_ble_eq_true rfl) rfl ?_
    refine r_iconst (pc' := 37) C dX8_night_36 rfl kc_0 ?_
    refine r_istore (pc' := 39) (lv2 := [(4, .int 0), (3, .int 0), (2, .int 0), (1, .int r1), (0, .ref 0)]) C dX8_night_37 rfl (Nat.le_of_ble_eq_true rfl) rfl ?_
    refine r_sub [4, 2, 1, 0] rfl ?_
    exact X8_night_l39_ok  (fun _ _ _ _ h Z C hE => by exact X8_night_j94_ok  h Z C hE) N _ _ _ _ _ h Z C hE
  · rw [if_neg c3] at h
    refine r_aload_n (pc' := 11) C dX8_night_10 rfl 1 rfl ?_
    refine r_getR (pc' := 14) C flX8_10 sh_0 rfl dX8_night_11 rfl ?_
    obtain ⟨r23, e24, h⟩ := bd h
    refine r_cV0 (pc' := 17) C (X6_clear_ok  e24) mlX8_111 ceX6_clear cvX6_clear sh_1 rfl rfl rfl (Nat.le_of_ble_eq_true rfl) rfl (Nat.le_of_ble_eq_true rfl) dX8_night_14 rfl (kk := ?_)
    refine r_iconst (pc' := 18) C dX8_night_17 rfl kc_m1 ?_
    refine r_iload_n (pc' := 19) C dX8_night_18 rfl 0 rfl ?_
    refine r_isub (pc' := 20) C dX8_night_19 rfl ?_
    have h := Option.some.inj h
    subst h
    exact r_ret C rfl dX8_night_20 hE
