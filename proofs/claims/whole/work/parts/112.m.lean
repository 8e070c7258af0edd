/-! BorrowedWeightModel.height(II)I -/
def X9_height (N : Nat)  (v1 : Int32) (v2 : Int32) (σ : Sg) : Option (Int32 × Sg) :=
  bnS (wi σ 149 0 0) fun σ1 => (X9_isThing N v1 σ1).bind fun r3 => (if r3 = 0 then (some ((-1), σ1)) else ((X9_in N v2.toInt64 0 99 σ1).bind fun r6 => (if r6 = 0 then (some ((-1), σ1)) else ((X9_copies N σ1).bind fun r9 => ((X9_goesOn N 154 v2 r9).bind fun r11 => (bnS (wi r11 149 1 0) fun σ13 => if inb 32 37 = true then (X9_has N (gi σ13 154 (32 : Int32).toNatClampNeg) v1 σ13).bind fun r16 => ((X9_flag N r16 σ13).bind fun r18 => ((X9_enters N r18.toInt64 σ13).bind fun r20 => (if inb (16 + v1) 37 = true then (X9_enters N ((gi r20 154 (16 + v1).toNatClampNeg).toInt64) r20).bind fun r23 => (if inb (8 + v1) 37 = true then some (gi r23 154 (8 + v1).toNatClampNeg, r23) else none) else none))) else none))))))
set_option maxRecDepth 100000 in
set_option maxHeartbeats 4000000 in
theorem X9_height_ok {E : Ev}  {N : Nat} {v1 : Int32} {v2 : Int32} {σ : Sg} {r : Int32 × Sg} (h : X9_height N  v1 v2 σ = some r) : Cm E 9 yX9_height cX9_height 3 (some .int) [.ref 149, .int v1, .int v2] SH0 SH0 σ r.2 (some (.int r.1)) 0 0 := by
  refine Cm.intro (by decide +kernel) (Nat.le_of_ble_eq_true rfl) (fun _ h => by obtain ⟨_, _, _, _, _, _, h⟩ := h; exact h) (fun Z C hE => ?_)
  show Wm E Z 0 0 SH0 σ 0 [(0, .ref 149), (1, .int v1), (2, .int v2)] []
  unfold X9_height at h
  refine r_aload_n (pc' := 1) C dX9_height_0 rfl 0 rfl ?_
  refine r_iconst (pc' := 2) C dX9_height_1 rfl kc_0 ?_
  obtain ⟨σ1, e2, h⟩ := bs h
  refine r_putI (pc' := 5) (σ1 := σ1) C fpX9_3 sh_149 rfl rfl rfl dX9_height_2 rfl e2 ?_
  refine r_aload_n (pc' := 6) C dX9_height_5 rfl 0 rfl ?_
  refine r_iload_n (pc' := 7) C dX9_height_6 rfl 1 rfl ?_
  obtain ⟨r3, e4, h⟩ := bd h
  refine r_cV1 (pc' := 10) C (X9_isThing_ok  e4) mlX9_123 ceX9_isThing cvX9_isThing sh_149 rfl rfl rfl (Nat.le_of_ble_eq_true rfl) rfl (Nat.le_of_ble_eq_true rfl) dX9_height_7 rfl (kk := ?_)
  refine r_if_eq (tgt := 25) (pc' := 13) C dX9_height_10 rfl rfl (fun c5 => ?_) (fun c5 => ?_)
  · rw [if_pos c5] at h
    refine r_iconst (pc' := 26) C dX9_height_25 rfl kc_m1 ?_
    have h := Option.some.inj h
    subst h
    exact r_ret C rfl dX9_height_26 hE
  · rw [if_neg c5] at h
    refine r_iload_n (pc' := 14) C dX9_height_13 rfl 2 rfl ?_
    refine r_i2l (pc' := 15) C dX9_height_14 rfl rfl ?_
    refine r_lconst (pc' := 16) C dX9_height_15 rfl kl_0 ?_
    refine r_ldc2 (pc' := 19) C cnX9_346 dX9_height_16 rfl ?_
    obtain ⟨r6, e7, h⟩ := bd h
    refine r_cS1 (pc' := 22) C (X9_in_ok  e7) mlX9_119 ceX9_in csX9_in rfl (Nat.le_of_ble_eq_true rfl) rfl (Nat.le_of_ble_eq_true rfl) dX9_height_19 rfl (kk := ?_)
    refine r_if_ne (tgt := 27) (pc' := 25) C dX9_height_22 rfl rfl (fun c8 => ?_) (fun c8 => ?_)
    · rw [if_neg c8] at h
      refine r_aload_n (pc' := 28) C dX9_height_27 rfl 0 rfl ?_
      obtain ⟨r9, e10, h⟩ := bd h
      refine r_cV0 (pc' := 31) C (X9_copies_ok  e10) mlX9_362 ceX9_copies cvX9_copies sh_149 rfl rfl rfl (Nat.le_of_ble_eq_true rfl) rfl (Nat.le_of_ble_eq_true rfl) dX9_height_28 rfl (kk := ?_)
      refine r_aload_n (pc' := 32) C dX9_height_31 rfl 0 rfl ?_
      refine r_aload_n (pc' := 33) C dX9_height_32 rfl 0 rfl ?_
      refine r_getR (pc' := 36) C flX9_37 sh_149 rfl dX9_height_33 rfl ?_
      refine r_iload_n (pc' := 37) C dX9_height_36 rfl 2 rfl ?_
      obtain ⟨r11, e12, h⟩ := bd h
      refine r_cV0 (pc' := 40) C (X9_goesOn_ok mac_154 e12) mlX9_324 ceX9_goesOn cvX9_goesOn sh_149 rfl rfl rfl (Nat.le_of_ble_eq_true rfl) rfl (Nat.le_of_ble_eq_true rfl) dX9_height_37 rfl (kk := ?_)
      refine r_aload_n (pc' := 41) C dX9_height_40 rfl 0 rfl ?_
      refine r_iconst (pc' := 42) C dX9_height_41 rfl kc_0 ?_
      obtain ⟨σ13, e14, h⟩ := bs h
      refine r_putI (pc' := 45) (σ1 := σ13) C fpX9_15 sh_149 rfl rfl rfl dX9_height_42 rfl e14 ?_
      refine r_aload_n (pc' := 46) C dX9_height_45 rfl 0 rfl ?_
      refine r_aload_n (pc' := 47) C dX9_height_46 rfl 0 rfl ?_
      refine r_getR (pc' := 50) C flX9_37 sh_149 rfl dX9_height_47 rfl ?_
      refine r_bipush (pc' := 52) C dX9_height_50 rfl kb_32 ?_
      obtain ⟨q15, h⟩ := ck h
      refine r_iald (pc' := 53) C sh_154 (vin q15) dX9_height_52 rfl ?_
      refine r_iload_n (pc' := 54) C dX9_height_53 rfl 1 rfl ?_
      obtain ⟨r16, e17, h⟩ := bd h
      refine r_cS1 (pc' := 57) C (X9_has_ok  e17) mlX9_127 ceX9_has csX9_has rfl (Nat.le_of_ble_eq_true rfl) rfl (Nat.le_of_ble_eq_true rfl) dX9_height_54 rfl (kk := ?_)
      obtain ⟨r18, e19, h⟩ := bd h
      refine r_cS1 (pc' := 60) C (X9_flag_ok  e19) mlX9_159 ceX9_flag csX9_flag rfl (Nat.le_of_ble_eq_true rfl) rfl (Nat.le_of_ble_eq_true rfl) dX9_height_57 rfl (kk := ?_)
      refine r_i2l (pc' := 61) C dX9_height_60 rfl rfl ?_
      obtain ⟨r20, e21, h⟩ := bd h
      refine r_cV0 (pc' := 64) C (X9_enters_ok  e21) mlX9_327 ceX9_enters cvX9_enters sh_149 rfl rfl rfl (Nat.le_of_ble_eq_true rfl) rfl (Nat.le_of_ble_eq_true rfl) dX9_height_61 rfl (kk := ?_)
      refine r_aload_n (pc' := 65) C dX9_height_64 rfl 0 rfl ?_
      refine r_aload_n (pc' := 66) C dX9_height_65 rfl 0 rfl ?_
      refine r_getR (pc' := 69) C flX9_37 sh_149 rfl dX9_height_66 rfl ?_
      refine r_bipush (pc' := 71) C dX9_height_69 rfl kb_16 ?_
      refine r_iload_n (pc' := 72) C dX9_height_71 rfl 1 rfl ?_
      refine r_iadd (pc' := 73) C dX9_height_72 rfl ?_
      obtain ⟨q22, h⟩ := ck h
      refine r_iald (pc' := 74) C sh_154 (vin q22) dX9_height_73 rfl ?_
      refine r_i2l (pc' := 75) C dX9_height_74 rfl rfl ?_
      obtain ⟨r23, e24, h⟩ := bd h
      refine r_cV0 (pc' := 78) C (X9_enters_ok  e24) mlX9_327 ceX9_enters cvX9_enters sh_149 rfl rfl rfl (Nat.le_of_ble_eq_true rfl) rfl (Nat.le_of_ble_eq_true rfl) dX9_height_75 rfl (kk := ?_)
      refine r_aload_n (pc' := 79) C dX9_height_78 rfl 0 rfl ?_
      refine r_getR (pc' := 82) C flX9_37 sh_149 rfl dX9_height_79 rfl ?_
      refine r_bipush (pc' := 84) C dX9_height_82 rfl kb_8 ?_
      refine r_iload_n (pc' := 85) C dX9_height_84 rfl 1 rfl ?_
      refine r_iadd (pc' := 86) C dX9_height_85 rfl ?_
      obtain ⟨q25, h⟩ := ck h
      refine r_iald (pc' := 87) C sh_154 (vin q25) dX9_height_86 rfl ?_
      have h := Option.some.inj h
      subst h
      exact r_ret C rfl dX9_height_87 hE
    · rw [if_pos c8] at h
      refine r_iconst (pc' := 26) C dX9_height_25 rfl kc_m1 ?_
      have h := Option.some.inj h
      subst h
      exact r_ret C rfl dX9_height_26 hE

/-! BorrowedWeightModel.gone(I)I -/
def X9_gone_l21 (N : Nat)  (k41 : Int32 → Sg → Option (Int32 × Sg))  : Nat → Int32 → Int32 → Sg → Option (Int32 × Sg)
  | 0, _, _, _ => none
  | n + 1, v1, v2, σ =>
    if 99 < v2 then (some ((-2), σ)) else (if inb 32 37 = true then (X9_has N (gi σ 154 (32 : Int32).toNatClampNeg) v1 σ).bind fun r10 => (if r10 = 0 then ((X9_hourGoes N 154 σ).bind fun r13 => (X9_gone_l21 N k41 n v1 (v2 + 1) r13)) else (k41 v2 σ)) else none)
set_option maxRecDepth 100000 in
set_option maxHeartbeats 4000000 in
theorem X9_gone_l21_ok {E : Ev}  {N : Nat} {k41 : Int32 → Sg → Option (Int32 × Sg)}  (hk41 : ∀ (v2 : Int32) (σ : Sg) (r : Int32 × Sg), k41 v2 σ = some r → Gp E RX9 cX9_gone (some .int) 3 8 SH0 r.2 (some (.int r.1)) σ 41 [(0, .ref 149), (2, .int v2)] []) : ∀ (n : Nat) (v1 : Int32) (v2 : Int32) (σ : Sg) (r : Int32 × Sg), X9_gone_l21 N k41 n v1 v2 σ = some r → Gp E RX9 cX9_gone (some .int) 3 8 SH0 r.2 (some (.int r.1)) σ 21 [(0, .ref 149), (1, .int v1), (2, .int v2)] [] := by
  intro n
  induction n with
  | zero => intro v1 v2 σ r h; cases h
  | succ n ih =>
    intro v1 v2 σ r h Z C hE
    unfold X9_gone_l21 at h
    refine r_iload_n (pc' := 22) C dX9_gone_21 rfl 2 rfl ?_
    refine r_bipush (pc' := 24) C dX9_gone_22 rfl kb_99 ?_
    refine r_icmp_gt (tgt := 79) (pc' := 27) C dX9_gone_24 rfl rfl (fun c8 => ?_) (fun c8 => ?_)
    · rw [if_pos c8] at h
      refine r_bipush (pc' := 81) C dX9_gone_79 rfl kb_m2 ?_
      have h := Option.some.inj h
      subst h
      exact r_ret C rfl dX9_gone_81 hE
    · rw [if_neg c8] at h
      refine r_aload_n (pc' := 28) C dX9_gone_27 rfl 0 rfl ?_
      refine r_getR (pc' := 31) C flX9_37 sh_149 rfl dX9_gone_28 rfl ?_
      refine r_bipush (pc' := 33) C dX9_gone_31 rfl kb_32 ?_
      obtain ⟨q9, h⟩ := ck h
      refine r_iald (pc' := 34) C sh_154 (vin q9) dX9_gone_33 rfl ?_
      refine r_iload_n (pc' := 35) C dX9_gone_34 rfl 1 rfl ?_
      obtain ⟨r10, e11, h⟩ := bd h
      refine r_cS1 (pc' := 38) C (X9_has_ok  e11) mlX9_127 ceX9_has csX9_has rfl (Nat.le_of_ble_eq_true rfl) rfl (Nat.le_of_ble_eq_true rfl) dX9_gone_35 rfl (kk := ?_)
      refine r_if_eq (tgt := 65) (pc' := 41) C dX9_gone_38 rfl rfl (fun c12 => ?_) (fun c12 => ?_)
      · rw [if_pos c12] at h
        refine r_aload_n (pc' := 66) C dX9_gone_65 rfl 0 rfl ?_
        refine r_aload_n (pc' := 67) C dX9_gone_66 rfl 0 rfl ?_
        refine r_getR (pc' := 70) C flX9_37 sh_149 rfl dX9_gone_67 rfl ?_
        obtain ⟨r13, e14, h⟩ := bd h
        refine r_cV0 (pc' := 73) C (X9_hourGoes_ok mac_154 e14) mlX9_313 ceX9_hourGoes cvX9_hourGoes sh_149 rfl rfl rfl (Nat.le_of_ble_eq_true rfl) rfl (Nat.le_of_ble_eq_true rfl) dX9_gone_70 rfl (kk := ?_)
        refine r_iinc (pc' := 76) (v := v2 + 1) (lv2 := [(2, .int (v2 + 1)), (0, .ref 149), (1, .int v1)]) C dX9_gone_73 rfl 2 rfl rfl (Nat.le_of_ble_eq_true rfl) rfl ?_
        refine r_goto (tgt := 21) C dX9_gone_76 rfl ?_
        refine r_sub [1, 2, 0] rfl ?_
        exact ih _ _ _ _ h Z C hE
      · rw [if_neg c12] at h
        refine r_sub [0, 2] rfl ?_
        exact hk41 _ _ _ h Z C hE
def X9_gone_j41 (N : Nat)   (v2 : Int32) (σ : Sg) : Option (Int32 × Sg) :=
  bnS (wi σ 149 1 0) fun σ15 => if inb 32 37 = true then (J6_bitCount_0f7a4 N (gi σ15 154 (32 : Int32).toNatClampNeg) σ15).bind fun r18 => ((X9_enters N ((r18 - 1).toInt64) σ15).bind fun r20 => (some (v2, r20))) else none
set_option maxRecDepth 100000 in
set_option maxHeartbeats 4000000 in
theorem X9_gone_j41_ok {E : Ev}  {N : Nat}    {v2 : Int32} {σ : Sg} {r : Int32 × Sg} (h : X9_gone_j41 N   v2 σ = some r) : Gp E RX9 cX9_gone (some .int) 3 8 SH0 r.2 (some (.int r.1)) σ 41 [(0, .ref 149), (2, .int v2)] [] := by
  intro Z C hE
  unfold X9_gone_j41 at h
  refine r_aload_n (pc' := 42) C dX9_gone_41 rfl 0 rfl ?_
  refine r_iconst (pc' := 43) C dX9_gone_42 rfl kc_0 ?_
  obtain ⟨σ15, e16, h⟩ := bs h
  refine r_putI (pc' := 46) (σ1 := σ15) C fpX9_15 sh_149 rfl rfl rfl dX9_gone_43 rfl e16 ?_
  refine r_aload_n (pc' := 47) C dX9_gone_46 rfl 0 rfl ?_
  refine r_aload_n (pc' := 48) C dX9_gone_47 rfl 0 rfl ?_
  refine r_getR (pc' := 51) C flX9_37 sh_149 rfl dX9_gone_48 rfl ?_
  refine r_bipush (pc' := 53) C dX9_gone_51 rfl kb_32 ?_
  obtain ⟨q17, h⟩ := ck h
  refine r_iald (pc' := 54) C sh_154 (vin q17) dX9_gone_53 rfl ?_
  obtain ⟨r18, e19, h⟩ := bd h
  refine r_cS1 (pc' := 57) C (J6_bitCount_0f7a4_ok  e19) mlX9_135 ceJ6_bitCount_0f7a4 csJ6_bitCount_0f7a4 rfl (Nat.le_of_ble_eq_true rfl) rfl (Nat.le_of_ble_eq_true rfl) dX9_gone_54 rfl (kk := ?_)
  refine r_iconst (pc' := 58) C dX9_gone_57 rfl kc_1 ?_
  refine r_isub (pc' := 59) C dX9_gone_58 rfl ?_
  refine r_i2l (pc' := 60) C dX9_gone_59 rfl rfl ?_
  obtain ⟨r20, e21, h⟩ := bd h
  refine r_cV0 (pc' := 63) C (X9_enters_ok  e21) mlX9_327 ceX9_enters cvX9_enters sh_149 rfl rfl rfl (Nat.le_of_ble_eq_true rfl) rfl (Nat.le_of_ble_eq_true rfl) dX9_gone_60 rfl (kk := ?_)
  refine r_iload_n (pc' := 64) C dX9_gone_63 rfl 1 rfl ?_
  have h := Option.some.inj h
  subst h
  exact r_ret C rfl dX9_gone_64 hE
def X9_gone (N : Nat)  (v1 : Int32) (σ : Sg) : Option (Int32 × Sg) :=
  bnS (wi σ 149 0 0) fun σ1 => (X9_isThing N v1 σ1).bind fun r3 => (if r3 = 0 then (some ((-1), σ1)) else ((X9_copies N σ1).bind fun r6 => (X9_gone_l21 N (fun v2 σ => X9_gone_j41 N v2 σ) N v1 0 r6)))
set_option maxRecDepth 100000 in
set_option maxHeartbeats 4000000 in
theorem X9_gone_ok {E : Ev}  {N : Nat} {v1 : Int32} {σ : Sg} {r : Int32 × Sg} (h : X9_gone N  v1 σ = some r) : Cm E 8 yX9_gone cX9_gone 3 (some .int) [.ref 149, .int v1] SH0 SH0 σ r.2 (some (.int r.1)) 0 0 := by
  refine Cm.intro (by decide +kernel) (Nat.le_of_ble_eq_true rfl) (fun _ h => by obtain ⟨_, _, _, _, _, _, h⟩ := h; exact h) (fun Z C hE => ?_)
  show Wm E Z 0 0 SH0 σ 0 [(0, .ref 149), (1, .int v1)] []
  unfold X9_gone at h
  refine r_aload_n (pc' := 1) C dX9_gone_0 rfl 0 rfl ?_
  refine r_iconst (pc' := 2) C dX9_gone_1 rfl kc_0 ?_
  obtain ⟨σ1, e2, h⟩ := bs h
  refine r_putI (pc' := 5) (σ1 := σ1) C fpX9_3 sh_149 rfl rfl rfl dX9_gone_2 rfl e2 ?_
  refine r_aload_n (pc' := 6) C dX9_gone_5 rfl 0 rfl ?_
  refine r_iload_n (pc' := 7) C dX9_gone_6 rfl 1 rfl ?_
  obtain ⟨r3, e4, h⟩ := bd h
  refine r_cV1 (pc' := 10) C (X9_isThing_ok  e4) mlX9_123 ceX9_isThing cvX9_isThing sh_149 rfl rfl rfl (Nat.le_of_ble_eq_true rfl) rfl (Nat.le_of_ble_eq_true rfl) dX9_gone_7 rfl (kk := ?_)
  refine r_if_ne (tgt := 15) (pc' := 13) C dX9_gone_10 rfl rfl (fun c5 => ?_) (fun c5 => ?_)
  · rw [if_neg c5] at h
    refine r_aload_n (pc' := 16) C dX9_gone_15 rfl 0 rfl ?_
    obtain ⟨r6, e7, h⟩ := bd h
    refine r_cV0 (pc' := 19) C (X9_copies_ok  e7) mlX9_362 ceX9_copies cvX9_copies sh_149 rfl rfl rfl (Nat.le_of_ble_eq_true rfl) rfl (Nat.le_of_ble_eq_true rfl) dX9_gone_16 rfl (kk := ?_)
    refine r_iconst (pc' := 20) C dX9_gone_19 rfl kc_0 ?_
    refine r_istore_n (pc' := 21) (lv2 := [(2, .int 0), (0, .ref 149), (1, .int v1)]) C dX9_gone_20 rfl rfl (Nat.le_of_ble_eq_true rfl) rfl ?_
    refine r_sub [1, 2, 0] rfl ?_
    exact X9_gone_l21_ok  (fun _ _ _ h Z C hE => by exact X9_gone_j41_ok  h Z C hE) N _ _ _ _ h Z C hE
  · rw [if_pos c5] at h
    refine r_iconst (pc' := 14) C dX9_gone_13 rfl kc_m1 ?_
    have h := Option.some.inj h
    subst h
    exact r_ret C rfl dX9_gone_14 hE

/-! BorrowedWeightModel.ahead(I)I -/
def X9_ahead_l39 (N : Nat)  (k64 : Sg → Option (Int32 × Sg))  : Nat → Int32 → Sg → Option (Int32 × Sg)
  | 0, _, _ => none
  | n + 1, v2, σ =>
    if (gi σ 149 3) ≤ v2 then (k64 σ) else (if inb v2 37 = true then (X9_enters N ((gi σ 154 v2.toNatClampNeg).toInt64) σ).bind fun r14 => (X9_ahead_l39 N k64 n (v2 + 1) r14) else none)
set_option maxRecDepth 100000 in
set_option maxHeartbeats 4000000 in
theorem X9_ahead_l39_ok {E : Ev}  {N : Nat} {k64 : Sg → Option (Int32 × Sg)}  (hk64 : ∀ (σ : Sg) (r : Int32 × Sg), k64 σ = some r → Gp E RX9 cX9_ahead (some .int) 3 9 SH0 r.2 (some (.int r.1)) σ 64 [(0, .ref 149)] []) : ∀ (n : Nat) (v2 : Int32) (σ : Sg) (r : Int32 × Sg), X9_ahead_l39 N k64 n v2 σ = some r → Gp E RX9 cX9_ahead (some .int) 3 9 SH0 r.2 (some (.int r.1)) σ 39 [(0, .ref 149), (2, .int v2)] [] := by
  intro n
  induction n with
  | zero => intro v2 σ r h; cases h
  | succ n ih =>
    intro v2 σ r h Z C hE
    unfold X9_ahead_l39 at h
    refine r_iload_n (pc' := 40) C dX9_ahead_39 rfl 1 rfl ?_
    refine r_aload_n (pc' := 41) C dX9_ahead_40 rfl 0 rfl ?_
    refine r_getI (pc' := 44) C flX9_116 sh_149 rfl dX9_ahead_41 rfl ?_
    refine r_icmp_ge (tgt := 64) (pc' := 47) C dX9_ahead_44 rfl rfl (fun c12 => ?_) (fun c12 => ?_)
    · rw [if_pos c12] at h
      refine r_sub [0] rfl ?_
      exact hk64 _ _ h Z C hE
    · rw [if_neg c12] at h
      refine r_aload_n (pc' := 48) C dX9_ahead_47 rfl 0 rfl ?_
      refine r_aload_n (pc' := 49) C dX9_ahead_48 rfl 0 rfl ?_
      refine r_getR (pc' := 52) C flX9_37 sh_149 rfl dX9_ahead_49 rfl ?_
      refine r_iload_n (pc' := 53) C dX9_ahead_52 rfl 1 rfl ?_
      obtain ⟨q13, h⟩ := ck h
      refine r_iald (pc' := 54) C sh_154 (vin q13) dX9_ahead_53 rfl ?_
      refine r_i2l (pc' := 55) C dX9_ahead_54 rfl rfl ?_
      obtain ⟨r14, e15, h⟩ := bd h
      refine r_cV0 (pc' := 58) C (X9_enters_ok  e15) mlX9_327 ceX9_enters cvX9_enters sh_149 rfl rfl rfl (Nat.le_of_ble_eq_true rfl) rfl (Nat.le_of_ble_eq_true rfl) dX9_ahead_55 rfl (kk := ?_)
      refine r_iinc (pc' := 61) (v := v2 + 1) (lv2 := [(2, .int (v2 + 1)), (0, .ref 149)]) C dX9_ahead_58 rfl 1 rfl rfl (Nat.le_of_ble_eq_true rfl) rfl ?_
      refine r_goto (tgt := 39) C dX9_ahead_61 rfl ?_
      refine r_sub [1, 0] rfl ?_
      exact ih _ _ _ h Z C hE
def X9_ahead_j64 (N : Nat)    (σ : Sg) : Option (Int32 × Sg) :=
  (X9_all N σ).bind fun r16 => ((X9_sumOf N 154 0 r16 σ).bind fun r18 => (some (r18, σ)))
set_option maxRecDepth 100000 in
set_option maxHeartbeats 4000000 in
theorem X9_ahead_j64_ok {E : Ev}  {N : Nat}     {σ : Sg} {r : Int32 × Sg} (h : X9_ahead_j64 N    σ = some r) : Gp E RX9 cX9_ahead (some .int) 3 9 SH0 r.2 (some (.int r.1)) σ 64 [(0, .ref 149)] [] := by
  intro Z C hE
  unfold X9_ahead_j64 at h
  refine r_aload_n (pc' := 65) C dX9_ahead_64 rfl 0 rfl ?_
  refine r_aload_n (pc' := 66) C dX9_ahead_65 rfl 0 rfl ?_
  refine r_getR (pc' := 69) C flX9_37 sh_149 rfl dX9_ahead_66 rfl ?_
  refine r_iconst (pc' := 70) C dX9_ahead_69 rfl kc_0 ?_
  refine r_aload_n (pc' := 71) C dX9_ahead_70 rfl 0 rfl ?_
  obtain ⟨r16, e17, h⟩ := bd h
  refine r_cV1 (pc' := 74) C (X9_all_ok  e17) mlX9_131 ceX9_all cvX9_all sh_149 rfl rfl rfl (Nat.le_of_ble_eq_true rfl) rfl (Nat.le_of_ble_eq_true rfl) dX9_ahead_71 rfl (kk := ?_)
  obtain ⟨r18, e19, h⟩ := bd h
  refine r_cV1 (pc' := 77) C (X9_sumOf_ok mac_154 e19) mlX9_274 ceX9_sumOf cvX9_sumOf sh_149 rfl rfl rfl (Nat.le_of_ble_eq_true rfl) rfl (Nat.le_of_ble_eq_true rfl) dX9_ahead_74 rfl (kk := ?_)
  have h := Option.some.inj h
  subst h
  exact r_ret C rfl dX9_ahead_77 hE
def X9_ahead (N : Nat)  (v1 : Int32) (σ : Sg) : Option (Int32 × Sg) :=
  bnS (wi σ 149 0 0) fun σ1 => (X9_in N v1.toInt64 0 99 σ1).bind fun r3 => (if r3 = 0 then (some ((-1), σ1)) else ((X9_copies N σ1).bind fun r6 => ((X9_goesOn N 154 v1 r6).bind fun r8 => (bnS (wi r8 149 1 0) fun σ10 => X9_ahead_l39 N (fun σ => X9_ahead_j64 N σ) N 0 σ10))))
set_option maxRecDepth 100000 in
set_option maxHeartbeats 4000000 in
theorem X9_ahead_ok {E : Ev}  {N : Nat} {v1 : Int32} {σ : Sg} {r : Int32 × Sg} (h : X9_ahead N  v1 σ = some r) : Cm E 9 yX9_ahead cX9_ahead 3 (some .int) [.ref 149, .int v1] SH0 SH0 σ r.2 (some (.int r.1)) 0 0 := by
  refine Cm.intro (by decide +kernel) (Nat.le_of_ble_eq_true rfl) (fun _ h => by obtain ⟨_, _, _, _, _, _, h⟩ := h; exact h) (fun Z C hE => ?_)
  show Wm E Z 0 0 SH0 σ 0 [(0, .ref 149), (1, .int v1)] []
  unfold X9_ahead at h
  refine r_aload_n (pc' := 1) C dX9_ahead_0 rfl 0 rfl ?_
  refine r_iconst (pc' := 2) C dX9_ahead_1 rfl kc_0 ?_
  obtain ⟨σ1, e2, h⟩ := bs h
  refine r_putI (pc' := 5) (σ1 := σ1) C fpX9_3 sh_149 rfl rfl rfl dX9_ahead_2 rfl e2 ?_
  refine r_iload_n (pc' := 6) C dX9_ahead_5 rfl 1 rfl ?_
  refine r_i2l (pc' := 7) C dX9_ahead_6 rfl rfl ?_
  refine r_lconst (pc' := 8) C dX9_ahead_7 rfl kl_0 ?_
  refine r_ldc2 (pc' := 11) C cnX9_346 dX9_ahead_8 rfl ?_
  obtain ⟨r3, e4, h⟩ := bd h
  refine r_cS1 (pc' := 14) C (X9_in_ok  e4) mlX9_119 ceX9_in csX9_in rfl (Nat.le_of_ble_eq_true rfl) rfl (Nat.le_of_ble_eq_true rfl) dX9_ahead_11 rfl (kk := ?_)
  refine r_if_ne (tgt := 19) (pc' := 17) C dX9_ahead_14 rfl rfl (fun c5 => ?_) (fun c5 => ?_)
  · rw [if_neg c5] at h
    refine r_aload_n (pc' := 20) C dX9_ahead_19 rfl 0 rfl ?_
    obtain ⟨r6, e7, h⟩ := bd h
    refine r_cV0 (pc' := 23) C (X9_copies_ok  e7) mlX9_362 ceX9_copies cvX9_copies sh_149 rfl rfl rfl (Nat.le_of_ble_eq_true rfl) rfl (Nat.le_of_ble_eq_true rfl) dX9_ahead_20 rfl (kk := ?_)
    refine r_aload_n (pc' := 24) C dX9_ahead_23 rfl 0 rfl ?_
    refine r_aload_n (pc' := 25) C dX9_ahead_24 rfl 0 rfl ?_
    refine r_getR (pc' := 28) C flX9_37 sh_149 rfl dX9_ahead_25 rfl ?_
    refine r_iload_n (pc' := 29) C dX9_ahead_28 rfl 1 rfl ?_
    obtain ⟨r8, e9, h⟩ := bd h
    refine r_cV0 (pc' := 32) C (X9_goesOn_ok mac_154 e9) mlX9_324 ceX9_goesOn cvX9_goesOn sh_149 rfl rfl rfl (Nat.le_of_ble_eq_true rfl) rfl (Nat.le_of_ble_eq_true rfl) dX9_ahead_29 rfl (kk := ?_)
    refine r_aload_n (pc' := 33) C dX9_ahead_32 rfl 0 rfl ?_
    refine r_iconst (pc' := 34) C dX9_ahead_33 rfl kc_0 ?_
    obtain ⟨σ10, e11, h⟩ := bs h
    refine r_putI (pc' := 37) (σ1 := σ10) C fpX9_15 sh_149 rfl rfl rfl dX9_ahead_34 rfl e11 ?_
    refine r_iconst (pc' := 38) C dX9_ahead_37 rfl kc_0 ?_
    refine r_istore_n (pc' := 39) (lv2 := [(2, .int 0), (0, .ref 149), (1, .int v1)]) C dX9_ahead_38 rfl rfl (Nat.le_of_ble_eq_true rfl) rfl ?_
    refine r_sub [1, 0] rfl ?_
    exact X9_ahead_l39_ok  (fun _ _ h Z C hE => by exact X9_ahead_j64_ok  h Z C hE) N _ _ _ h Z C hE
  · rw [if_pos c5] at h
    refine r_iconst (pc' := 18) C dX9_ahead_17 rfl kc_m1 ?_
    have h := Option.some.inj h
    subst h
    exact r_ret C rfl dX9_ahead_18 hE

/-! BorrowedWeightModel.least(I)I -/
def X9_least_j134 (N : Nat)  (kr : Int32 → Int32 → Int32 → Int32 → Int32 → Int32 → Sg → Option (Int32 × Sg)) (v1 : Int32) (v2 : Int32) (v4 : Int32) (v5 : Int32) (v6 : Int32) (v7 : Int32) (v8 : Int32) (s0 : Int32) (s1 : Int32) (σ : Sg) : Option (Int32 × Sg) :=
  (X9_flag N v8 σ).bind fun r20 => (if v8 = 0 then (kr v1 v2 (s1 + s0) (v4 + r20) (v5 ||| 0) (v6 + 1) σ) else (kr v1 v2 (s1 + s0) (v4 + r20) (v5 ||| v7) (v6 + 1) σ))
set_option maxRecDepth 100000 in
set_option maxHeartbeats 4000000 in
theorem X9_least_j134_ok {E : Ev}  {N : Nat} {kr : Int32 → Int32 → Int32 → Int32 → Int32 → Int32 → Sg → Option (Int32 × Sg)}  (hkr : ∀ (v1 : Int32) (v2 : Int32) (v3 : Int32) (v4 : Int32) (v5 : Int32) (v6 : Int32) (σ : Sg) (r : Int32 × Sg), kr v1 v2 v3 v4 v5 v6 σ = some r → Gp E RX9 cX9_least (some .int) 9 7 SH0 r.2 (some (.int r.1)) σ 65 [(0, .ref 149), (1, .int v1), (2, .int v2), (3, .int v3), (4, .int v4), (5, .int v5), (6, .int v6)] []) {v1 : Int32} {v2 : Int32} {v4 : Int32} {v5 : Int32} {v6 : Int32} {v7 : Int32} {v8 : Int32} {s0 : Int32} {s1 : Int32} {σ : Sg} {r : Int32 × Sg} (h : X9_least_j134 N  kr v1 v2 v4 v5 v6 v7 v8 s0 s1 σ = some r) : Gp E RX9 cX9_least (some .int) 9 7 SH0 r.2 (some (.int r.1)) σ 134 [(0, .ref 149), (1, .int v1), (2, .int v2), (4, .int v4), (5, .int v5), (6, .int v6), (7, .int v7), (8, .int v8)] [.int s0, .int s1] := by
  intro Z C hE
  unfold X9_least_j134 at h
  refine r_iadd (pc' := 135) C dX9_least_134 rfl ?_
  refine r_istore_n (pc' := 136) (lv2 := [(3, .int (s1 + s0)), (0, .ref 149), (1, .int v1), (2, .int v2), (4, .int v4), (5, .int v5), (6, .int v6), (7, .int v7), (8, .int v8)]) C dX9_least_135 rfl rfl (Nat.le_of_ble_eq_true rfl) rfl ?_
  refine r_iload (pc' := 138) C dX9_least_136 rfl 4 rfl ?_
  refine r_iload (pc' := 140) C dX9_least_138 rfl 8 rfl ?_
  obtain ⟨r20, e21, h⟩ := bd h
  refine r_cS1 (pc' := 143) C (X9_flag_ok  e21) mlX9_159 ceX9_flag csX9_flag rfl (Nat.le_of_ble_eq_true rfl) rfl (Nat.le_of_ble_eq_true rfl) dX9_least_140 rfl (kk := ?_)
  refine r_iadd (pc' := 144) C dX9_least_143 rfl ?_
  refine r_istore (pc' := 146) (lv2 := [(4, .int (v4 + r20)), (3, .int (s1 + s0)), (0, .ref 149), (1, .int v1), (2, .int v2), (5, .int v5), (6, .int v6), (7, .int v7), (8, .int v8)]) C dX9_least_144 rfl (Nat.le_of_ble_eq_true rfl) rfl ?_
  refine r_iload (pc' := 148) C dX9_least_146 rfl 5 rfl ?_
  refine r_iload (pc' := 150) C dX9_least_148 rfl 8 rfl ?_
  refine r_if_eq (tgt := 158) (pc' := 153) C dX9_least_150 rfl rfl (fun c22 => ?_) (fun c22 => ?_)
  · rw [if_pos c22] at h
    refine r_iconst (pc' := 159) C dX9_least_158 rfl kc_0 ?_
    refine r_ior (pc' := 160) C dX9_least_159 rfl ?_
    refine r_istore (pc' := 162) (lv2 := [(5, .int (v5 ||| 0)), (4, .int (v4 + r20)), (3, .int (s1 + s0)), (0, .ref 149), (1, .int v1), (2, .int v2), (6, .int v6), (7, .int v7), (8, .int v8)]) C dX9_least_160 rfl (Nat.le_of_ble_eq_true rfl) rfl ?_
    refine r_iinc (pc' := 165) (v := v6 + 1) (lv2 := [(6, .int (v6 + 1)), (5, .int (v5 ||| 0)), (4, .int (v4 + r20)), (3, .int (s1 + s0)), (0, .ref 149), (1, .int v1), (2, .int v2), (7, .int v7), (8, .int v8)]) C dX9_least_162 rfl 6 rfl rfl (Nat.le_of_ble_eq_true rfl) rfl ?_
    refine r_goto (tgt := 65) C dX9_least_165 rfl ?_
    refine r_sub [4, 5, 6, 3, 2, 1, 0] rfl ?_
    exact hkr _ _ _ _ _ _ _ _ h Z C hE
  · rw [if_neg c22] at h
    refine r_iload (pc' := 155) C dX9_least_153 rfl 7 rfl ?_
    refine r_goto (tgt := 159) C dX9_least_155 rfl ?_
    refine r_ior (pc' := 160) C dX9_least_159 rfl ?_
    refine r_istore (pc' := 162) (lv2 := [(5, .int (v5 ||| v7)), (4, .int (v4 + r20)), (3, .int (s1 + s0)), (0, .ref 149), (1, .int v1), (2, .int v2), (6, .int v6), (7, .int v7), (8, .int v8)]) C dX9_least_160 rfl (Nat.le_of_ble_eq_true rfl) rfl ?_
    refine r_iinc (pc' := 165) (v := v6 + 1) (lv2 := [(6, .int (v6 + 1)), (5, .int (v5 ||| v7)), (4, .int (v4 + r20)), (3, .int (s1 + s0)), (0, .ref 149), (1, .int v1), (2, .int v2), (7, .int v7), (8, .int v8)]) C dX9_least_162 rfl 6 rfl rfl (Nat.le_of_ble_eq_true rfl) rfl ?_
    refine r_goto (tgt := 65) C dX9_least_165 rfl ?_
    refine r_sub [4, 5, 6, 3, 2, 1, 0] rfl ?_
    exact hkr _ _ _ _ _ _ _ _ h Z C hE
def X9_least_j111 (N : Nat)  (kr : Int32 → Int32 → Int32 → Int32 → Int32 → Int32 → Sg → Option (Int32 × Sg)) (v1 : Int32) (v2 : Int32) (v3 : Int32) (v4 : Int32) (v5 : Int32) (v6 : Int32) (v7 : Int32) (s0 : Int32) (σ : Sg) : Option (Int32 × Sg) :=
  if s0 = 0 then (X9_least_j134 N kr v1 v2 v4 v5 v6 v7 s0 0 v3 σ) else ((X9_above N 153 v7 σ).bind fun r23 => (X9_least_j134 N kr v1 v2 v4 v5 v6 v7 s0 (-r23.1) v3 r23.2))
set_option maxRecDepth 100000 in
set_option maxHeartbeats 4000000 in
theorem X9_least_j111_ok {E : Ev}  {N : Nat} {kr : Int32 → Int32 → Int32 → Int32 → Int32 → Int32 → Sg → Option (Int32 × Sg)}  (hkr : ∀ (v1 : Int32) (v2 : Int32) (v3 : Int32) (v4 : Int32) (v5 : Int32) (v6 : Int32) (σ : Sg) (r : Int32 × Sg), kr v1 v2 v3 v4 v5 v6 σ = some r → Gp E RX9 cX9_least (some .int) 9 7 SH0 r.2 (some (.int r.1)) σ 65 [(0, .ref 149), (1, .int v1), (2, .int v2), (3, .int v3), (4, .int v4), (5, .int v5), (6, .int v6)] []) {v1 : Int32} {v2 : Int32} {v3 : Int32} {v4 : Int32} {v5 : Int32} {v6 : Int32} {v7 : Int32} {s0 : Int32} {σ : Sg} {r : Int32 × Sg} (h : X9_least_j111 N  kr v1 v2 v3 v4 v5 v6 v7 s0 σ = some r) : Gp E RX9 cX9_least (some .int) 9 7 SH0 r.2 (some (.int r.1)) σ 111 [(0, .ref 149), (1, .int v1), (2, .int v2), (3, .int v3), (4, .int v4), (5, .int v5), (6, .int v6), (7, .int v7)] [.int s0] := by
  intro Z C hE
  unfold X9_least_j111 at h
  refine r_istore (pc' := 113) (lv2 := [(8, .int s0), (0, .ref 149), (1, .int v1), (2, .int v2), (3, .int v3), (4, .int v4), (5, .int v5), (6, .int v6), (7, .int v7)]) C dX9_least_111 rfl (Nat.le_of_ble_eq_true rfl) rfl ?_
  refine r_iload_n (pc' := 114) C dX9_least_113 rfl 4 rfl ?_
  refine r_iload (pc' := 116) C dX9_least_114 rfl 0 rfl ?_
  refine r_if_eq (tgt := 133) (pc' := 119) C dX9_least_116 rfl rfl (fun c19 => ?_) (fun c19 => ?_)
  · rw [if_pos c19] at h
    refine r_iconst (pc' := 134) C dX9_least_133 rfl kc_0 ?_
    refine r_sub [1, 2, 3, 5, 6, 7, 8, 0] rfl ?_
    exact X9_least_j134_ok  hkr h Z C hE
  · rw [if_neg c19] at h
    refine r_aload_n (pc' := 120) C dX9_least_119 rfl 1 rfl ?_
    refine r_aload_n (pc' := 121) C dX9_least_120 rfl 1 rfl ?_
    refine r_getR (pc' := 124) C flX9_34 sh_149 rfl dX9_least_121 rfl ?_
    refine r_iload (pc' := 126) C dX9_least_124 rfl 8 rfl ?_
    obtain ⟨r23, e24, h⟩ := bd h
    refine r_cV1 (pc' := 129) C (X9_above_ok mac_153 e24) mlX9_287 ceX9_above cvX9_above sh_149 rfl rfl rfl (Nat.le_of_ble_eq_true rfl) rfl (Nat.le_of_ble_eq_true rfl) dX9_least_126 rfl (kk := ?_)
    refine r_ineg (pc' := 130) C dX9_least_129 rfl ?_
    refine r_goto (tgt := 134) C dX9_least_130 rfl ?_
    refine r_sub [1, 2, 3, 5, 6, 7, 8, 0] rfl ?_
    exact X9_least_j134_ok  hkr h Z C hE
def X9_least_j97 (N : Nat)  (kr : Int32 → Int32 → Int32 → Int32 → Int32 → Int32 → Sg → Option (Int32 × Sg)) (v1 : Int32) (v2 : Int32) (v3 : Int32) (v4 : Int32) (v5 : Int32) (v6 : Int32) (s0 : Int32) (σ : Sg) : Option (Int32 × Sg) :=
  if (s0 &&& v1) = 0 then (X9_least_j111 N kr v1 v2 v3 v4 v5 v6 s0 0 σ) else (X9_least_j111 N kr v1 v2 v3 v4 v5 v6 s0 1 σ)
set_option maxRecDepth 100000 in
set_option maxHeartbeats 4000000 in
theorem X9_least_j97_ok {E : Ev}  {N : Nat} {kr : Int32 → Int32 → Int32 → Int32 → Int32 → Int32 → Sg → Option (Int32 × Sg)}  (hkr : ∀ (v1 : Int32) (v2 : Int32) (v3 : Int32) (v4 : Int32) (v5 : Int32) (v6 : Int32) (σ : Sg) (r : Int32 × Sg), kr v1 v2 v3 v4 v5 v6 σ = some r → Gp E RX9 cX9_least (some .int) 9 7 SH0 r.2 (some (.int r.1)) σ 65 [(0, .ref 149), (1, .int v1), (2, .int v2), (3, .int v3), (4, .int v4), (5, .int v5), (6, .int v6)] []) {v1 : Int32} {v2 : Int32} {v3 : Int32} {v4 : Int32} {v5 : Int32} {v6 : Int32} {s0 : Int32} {σ : Sg} {r : Int32 × Sg} (h : X9_least_j97 N  kr v1 v2 v3 v4 v5 v6 s0 σ = some r) : Gp E RX9 cX9_least (some .int) 9 7 SH0 r.2 (some (.int r.1)) σ 97 [(0, .ref 149), (1, .int v1), (2, .int v2), (3, .int v3), (4, .int v4), (5, .int v5), (6, .int v6)] [.int s0] := by
  intro Z C hE
  unfold X9_least_j97 at h
  refine r_istore (pc' := 99) (lv2 := [(7, .int s0), (0, .ref 149), (1, .int v1), (2, .int v2), (3, .int v3), (4, .int v4), (5, .int v5), (6, .int v6)]) C dX9_least_97 rfl (Nat.le_of_ble_eq_true rfl) rfl ?_
  refine r_iload (pc' := 101) C dX9_least_99 rfl 0 rfl ?_
  refine r_iload_n (pc' := 102) C dX9_least_101 rfl 2 rfl ?_
  refine r_iand (pc' := 103) C dX9_least_102 rfl ?_
  refine r_if_eq (tgt := 110) (pc' := 106) C dX9_least_103 rfl rfl (fun c18 => ?_) (fun c18 => ?_)
  · rw [if_pos c18] at h
    refine r_iconst (pc' := 111) C dX9_least_110 rfl kc_0 ?_
    refine r_sub [1, 2, 3, 4, 5, 6, 7, 0] rfl ?_
    exact X9_least_j111_ok  hkr h Z C hE
  · rw [if_neg c18] at h
    refine r_iconst (pc' := 107) C dX9_least_106 rfl kc_1 ?_
    refine r_goto (tgt := 111) C dX9_least_107 rfl ?_
    refine r_sub [1, 2, 3, 4, 5, 6, 7, 0] rfl ?_
    exact X9_least_j111_ok  hkr h Z C hE
def X9_least_l65 (N : Nat)  (k168 : Int32 → Int32 → Int32 → Sg → Option (Int32 × Sg))  : Nat → Int32 → Int32 → Int32 → Int32 → Int32 → Int32 → Sg → Option (Int32 × Sg)
  | 0, _, _, _, _, _, _, _ => none
  | n + 1, v1, v2, v3, v4, v5, v6, σ =>
    if (gi σ 149 3) ≤ v6 then (k168 v3 v4 v5 σ) else ((X9_has N v2 v6 σ).bind fun r15 => (if r15 = 0 then (X9_least_j97 N (fun v1 v2 v3 v4 v5 v6 σ => X9_least_l65 N k168 n v1 v2 v3 v4 v5 v6 σ) v1 v2 v3 v4 v5 v6 0 σ) else ((X9_bundle N 153 v6 σ).bind fun r25 => (X9_least_j97 N (fun v1 v2 v3 v4 v5 v6 σ => X9_least_l65 N k168 n v1 v2 v3 v4 v5 v6 σ) v1 v2 v3 v4 v5 v6 r25 σ))))
set_option maxRecDepth 100000 in
set_option maxHeartbeats 4000000 in
theorem X9_least_l65_ok {E : Ev}  {N : Nat} {k168 : Int32 → Int32 → Int32 → Sg → Option (Int32 × Sg)}  (hk168 : ∀ (v3 : Int32) (v4 : Int32) (v5 : Int32) (σ : Sg) (r : Int32 × Sg), k168 v3 v4 v5 σ = some r → Gp E RX9 cX9_least (some .int) 9 7 SH0 r.2 (some (.int r.1)) σ 168 [(0, .ref 149), (3, .int v3), (4, .int v4), (5, .int v5)] []) : ∀ (n : Nat) (v1 : Int32) (v2 : Int32) (v3 : Int32) (v4 : Int32) (v5 : Int32) (v6 : Int32) (σ : Sg) (r : Int32 × Sg), X9_least_l65 N k168 n v1 v2 v3 v4 v5 v6 σ = some r → Gp E RX9 cX9_least (some .int) 9 7 SH0 r.2 (some (.int r.1)) σ 65 [(0, .ref 149), (1, .int v1), (2, .int v2), (3, .int v3), (4, .int v4), (5, .int v5), (6, .int v6)] [] := by
  intro n
  induction n with
  | zero => intro v1 v2 v3 v4 v5 v6 σ r h; cases h
  | succ n ih =>
    intro v1 v2 v3 v4 v5 v6 σ r h Z C hE
    unfold X9_least_l65 at h
    refine r_iload (pc' := 67) C dX9_least_65 rfl 6 rfl ?_
    refine r_aload_n (pc' := 68) C dX9_least_67 rfl 0 rfl ?_
    refine r_getI (pc' := 71) C flX9_116 sh_149 rfl dX9_least_68 rfl ?_
    refine r_icmp_ge (tgt := 168) (pc' := 74) C dX9_least_71 rfl rfl (fun c14 => ?_) (fun c14 => ?_)
    · rw [if_pos c14] at h
      refine r_sub [0, 3, 4, 5] rfl ?_
      exact hk168 _ _ _ _ _ h Z C hE
    · rw [if_neg c14] at h
      refine r_iload_n (pc' := 75) C dX9_least_74 rfl 2 rfl ?_
      refine r_iload (pc' := 77) C dX9_least_75 rfl 6 rfl ?_
      obtain ⟨r15, e16, h⟩ := bd h
      refine r_cS1 (pc' := 80) C (X9_has_ok  e16) mlX9_127 ceX9_has csX9_has rfl (Nat.le_of_ble_eq_true rfl) rfl (Nat.le_of_ble_eq_true rfl) dX9_least_77 rfl (kk := ?_)
      refine r_if_eq (tgt := 96) (pc' := 83) C dX9_least_80 rfl rfl (fun c17 => ?_) (fun c17 => ?_)
      · rw [if_pos c17] at h
        refine r_iconst (pc' := 97) C dX9_least_96 rfl kc_0 ?_
        exact X9_least_j97_ok  ih h Z C hE
      · rw [if_neg c17] at h
        refine r_aload_n (pc' := 84) C dX9_least_83 rfl 0 rfl ?_
        refine r_aload_n (pc' := 85) C dX9_least_84 rfl 0 rfl ?_
        refine r_getR (pc' := 88) C flX9_34 sh_149 rfl dX9_least_85 rfl ?_
        refine r_iload (pc' := 90) C dX9_least_88 rfl 6 rfl ?_
        obtain ⟨r25, e26, h⟩ := bd h
        refine r_cV1 (pc' := 93) C (X9_bundle_ok mac_153 e26) mlX9_281 ceX9_bundle cvX9_bundle sh_149 rfl rfl rfl (Nat.le_of_ble_eq_true rfl) rfl (Nat.le_of_ble_eq_true rfl) dX9_least_90 rfl (kk := ?_)
        refine r_goto (tgt := 97) C dX9_least_93 rfl ?_
        exact X9_least_j97_ok  ih h Z C hE
def X9_least_j168 (N : Nat)   (v3 : Int32) (v4 : Int32) (v5 : Int32) (σ : Sg) : Option (Int32 × Sg) :=
  bnS (wi σ 149 1 0) fun σ27 => (X9_enters N v4.toInt64 σ27).bind fun r29 => ((X9_enters N v5.toInt64 r29).bind fun r31 => (some (v3, r31)))
set_option maxRecDepth 100000 in
set_option maxHeartbeats 4000000 in
theorem X9_least_j168_ok {E : Ev}  {N : Nat}    {v3 : Int32} {v4 : Int32} {v5 : Int32} {σ : Sg} {r : Int32 × Sg} (h : X9_least_j168 N   v3 v4 v5 σ = some r) : Gp E RX9 cX9_least (some .int) 9 7 SH0 r.2 (some (.int r.1)) σ 168 [(0, .ref 149), (3, .int v3), (4, .int v4), (5, .int v5)] [] := by
  intro Z C hE
  unfold X9_least_j168 at h
  refine r_aload_n (pc' := 169) C dX9_least_168 rfl 0 rfl ?_
  refine r_iconst (pc' := 170) C dX9_least_169 rfl kc_0 ?_
  obtain ⟨σ27, e28, h⟩ := bs h
  refine r_putI (pc' := 173) (σ1 := σ27) C fpX9_15 sh_149 rfl rfl rfl dX9_least_170 rfl e28 ?_
  refine r_aload_n (pc' := 174) C dX9_least_173 rfl 0 rfl ?_
  refine r_iload (pc' := 176) C dX9_least_174 rfl 2 rfl ?_
  refine r_i2l (pc' := 177) C dX9_least_176 rfl rfl ?_
  obtain ⟨r29, e30, h⟩ := bd h
  refine r_cV0 (pc' := 180) C (X9_enters_ok  e30) mlX9_327 ceX9_enters cvX9_enters sh_149 rfl rfl rfl (Nat.le_of_ble_eq_true rfl) rfl (Nat.le_of_ble_eq_true rfl) dX9_least_177 rfl (kk := ?_)
  refine r_aload_n (pc' := 181) C dX9_least_180 rfl 0 rfl ?_
  refine r_iload (pc' := 183) C dX9_least_181 rfl 3 rfl ?_
  refine r_i2l (pc' := 184) C dX9_least_183 rfl rfl ?_
  obtain ⟨r31, e32, h⟩ := bd h
  refine r_cV0 (pc' := 187) C (X9_enters_ok  e32) mlX9_327 ceX9_enters cvX9_enters sh_149 rfl rfl rfl (Nat.le_of_ble_eq_true rfl) rfl (Nat.le_of_ble_eq_true rfl) dX9_least_184 rfl (kk := ?_)
  refine r_iload_n (pc' := 188) C dX9_least_187 rfl 1 rfl ?_
  have h := Option.some.inj h
  subst h
  exact r_ret C rfl dX9_least_188 hE
def X9_least (N : Nat)  (v1 : Int32) (σ : Sg) : Option (Int32 × Sg) :=
  bnS (wi σ 149 0 0) fun σ1 => (X9_all N σ1).bind fun r3 => ((X9_in N v1.toInt64 0 r3.toInt64 σ1).bind fun r5 => (if r5 = 0 then (some ((-1), σ1)) else (if inb 32 37 = true then if (v1 &&& (gi σ1 153 (32 : Int32).toNatClampNeg)) = 0 then ((X9_firstOnes N 153 σ1).bind fun r10 => ((X9_floating N 153 σ1).bind fun r12 => (X9_least_l65 N (fun v3 v4 v5 σ => X9_least_j168 N v3 v4 v5 σ) N v1 (r10 &&& r12.1) 0 0 0 0 r12.2))) else (some ((-2), σ1)) else none)))
set_option maxRecDepth 100000 in
set_option maxHeartbeats 4000000 in
theorem X9_least_ok {E : Ev}  {N : Nat} {v1 : Int32} {σ : Sg} {r : Int32 × Sg} (h : X9_least N  v1 σ = some r) : Cm E 7 yX9_least cX9_least 9 (some .int) [.ref 149, .int v1] SH0 SH0 σ r.2 (some (.int r.1)) 0 0 := by
  refine Cm.intro (by decide +kernel) (Nat.le_of_ble_eq_true rfl) (fun _ h => by obtain ⟨_, _, _, _, _, _, h⟩ := h; exact h) (fun Z C hE => ?_)
  show Wm E Z 0 0 SH0 σ 0 [(0, .ref 149), (1, .int v1)] []
  unfold X9_least at h
  refine r_aload_n (pc' := 1) C dX9_least_0 rfl 0 rfl ?_
  refine r_iconst (pc' := 2) C dX9_least_1 rfl kc_0 ?_
  obtain ⟨σ1, e2, h⟩ := bs h
  refine r_putI (pc' := 5) (σ1 := σ1) C fpX9_3 sh_149 rfl rfl rfl dX9_least_2 rfl e2 ?_
  refine r_iload_n (pc' := 6) C dX9_least_5 rfl 1 rfl ?_
  refine r_i2l (pc' := 7) C dX9_least_6 rfl rfl ?_
  refine r_lconst (pc' := 8) C dX9_least_7 rfl kl_0 ?_
  refine r_aload_n (pc' := 9) C dX9_least_8 rfl 0 rfl ?_
  obtain ⟨r3, e4, h⟩ := bd h
  refine r_cV1 (pc' := 12) C (X9_all_ok  e4) mlX9_131 ceX9_all cvX9_all sh_149 rfl rfl rfl (Nat.le_of_ble_eq_true rfl) rfl (Nat.le_of_ble_eq_true rfl) dX9_least_9 rfl (kk := ?_)
  refine r_i2l (pc' := 13) C dX9_least_12 rfl rfl ?_
  obtain ⟨r5, e6, h⟩ := bd h
  refine r_cS1 (pc' := 16) C (X9_in_ok  e6) mlX9_119 ceX9_in csX9_in rfl (Nat.le_of_ble_eq_true rfl) rfl (Nat.le_of_ble_eq_true rfl) dX9_least_13 rfl (kk := ?_)
  refine r_if_ne (tgt := 21) (pc' := 19) C dX9_least_16 rfl rfl (fun c7 => ?_) (fun c7 => ?_)
  · rw [if_neg c7] at h
    refine r_iload_n (pc' := 22) C dX9_least_21 rfl 1 rfl ?_
    refine r_aload_n (pc' := 23) C dX9_least_22 rfl 0 rfl ?_
    refine r_getR (pc' := 26) C flX9_34 sh_149 rfl dX9_least_23 rfl ?_
    refine r_bipush (pc' := 28) C dX9_least_26 rfl kb_32 ?_
    obtain ⟨q8, h⟩ := ck h
    refine r_iald (pc' := 29) C sh_153 (vin q8) dX9_least_28 rfl ?_
    refine r_iand (pc' := 30) C dX9_least_29 rfl ?_
    refine r_if_eq (tgt := 36) (pc' := 33) C dX9_least_30 rfl rfl (fun c9 => ?_) (fun c9 => ?_)
    · rw [if_pos c9] at h
      refine r_aload_n (pc' := 37) C dX9_least_36 rfl 0 rfl ?_
      refine r_aload_n (pc' := 38) C dX9_least_37 rfl 0 rfl ?_
      refine r_getR (pc' := 41) C flX9_34 sh_149 rfl dX9_least_38 rfl ?_
      obtain ⟨r10, e11, h⟩ := bd h
      refine r_cV1 (pc' := 44) C (X9_firstOnes_ok mac_153 e11) mlX9_359 ceX9_firstOnes cvX9_firstOnes sh_149 rfl rfl rfl (Nat.le_of_ble_eq_true rfl) rfl (Nat.le_of_ble_eq_true rfl) dX9_least_41 rfl (kk := ?_)
      refine r_aload_n (pc' := 45) C dX9_least_44 rfl 0 rfl ?_
      refine r_aload_n (pc' := 46) C dX9_least_45 rfl 0 rfl ?_
      refine r_getR (pc' := 49) C flX9_34 sh_149 rfl dX9_least_46 rfl ?_
      obtain ⟨r12, e13, h⟩ := bd h
      refine r_cV1 (pc' := 52) C (X9_floating_ok mac_153 e13) mlX9_303 ceX9_floating cvX9_floating sh_149 rfl rfl rfl (Nat.le_of_ble_eq_true rfl) rfl (Nat.le_of_ble_eq_true rfl) dX9_least_49 rfl (kk := ?_)
      refine r_iand (pc' := 53) C dX9_least_52 rfl ?_
      refine r_istore_n (pc' := 54) (lv2 := [(2, .int (r10 &&& r12.1)), (0, .ref 149), (1, .int v1)]) C dX9_least_53 rfl rfl (Nat.le_of_ble_eq_true rfl) rfl ?_
      refine r_iconst (pc' := 55) C dX9_least_54 rfl kc_0 ?_
      refine r_istore_n (pc' := 56) (lv2 := [(3, .int 0), (2, .int (r10 &&& r12.1)), (0, .ref 149), (1, .int v1)]) C dX9_least_55 rfl rfl (Nat.le_of_ble_eq_true rfl) rfl ?_
      refine r_iconst (pc' := 57) C dX9_least_56 rfl kc_0 ?_
      refine r_istore (pc' := 59) (lv2 := [(4, .int 0), (3, .int 0), (2, .int (r10 &&& r12.1)), (0, .ref 149), (1, .int v1)]) C dX9_least_57 rfl (Nat.le_of_ble_eq_true rfl) rfl ?_
      refine r_iconst (pc' := 60) C dX9_least_59 rfl kc_0 ?_
      refine r_istore (pc' := 62) (lv2 := [(5, .int 0), (4, .int 0), (3, .int 0), (2, .int (r10 &&& r12.1)), (0, .ref 149), (1, .int v1)]) C dX9_least_60 rfl (Nat.le_of_ble_eq_true rfl) rfl ?_
      refine r_iconst (pc' := 63) C dX9_least_62 rfl kc_0 ?_
      refine r_istore (pc' := 65) (lv2 := [(6, .int 0), (5, .int 0), (4, .int 0), (3, .int 0), (2, .int (r10 &&& r12.1)), (0, .ref 149), (1, .int v1)]) C dX9_least_63 rfl (Nat.le_of_ble_eq_true rfl) rfl ?_
      refine r_sub [5, 6, 4, 3, 2, 1, 0] rfl ?_
      exact X9_least_l65_ok  (fun _ _ _ _ _ h Z C hE => by exact X9_least_j168_ok  h Z C hE) N _ _ _ _ _ _ _ _ h Z C hE
    · rw [if_neg c9] at h
      refine r_bipush (pc' := 35) C dX9_least_33 rfl kb_m2 ?_
      have h := Option.some.inj h
      subst h
      exact r_ret C rfl dX9_least_35 hE
  · rw [if_pos c7] at h
    refine r_iconst (pc' := 20) C dX9_least_19 rfl kc_m1 ?_
    have h := Option.some.inj h
    subst h
    exact r_ret C rfl dX9_least_20 hE

/-! BorrowedWeightModel.surplus()I -/
def X9_surplus_l29 (N : Nat)  (k50 : Int32 → Int32 → Sg → Option (Int32 × Sg))  : Nat → Int32 → Int32 → Int32 → Sg → Option (Int32 × Sg)
  | 0, _, _, _, _ => none
  | n + 1, v1, v2, v3, σ =>
    if (gi σ 149 3) ≤ v3 then (k50 v1 v2 σ) else (if inb v3 8 = true then bnS (wi σ 165 v3.toNatClampNeg 0) fun σ9 => X9_surplus_l29 N k50 n v1 v2 (v3 + 1) σ9 else none)
set_option maxRecDepth 100000 in
set_option maxHeartbeats 4000000 in
theorem X9_surplus_l29_ok {E : Ev}  {N : Nat} {k50 : Int32 → Int32 → Sg → Option (Int32 × Sg)}  (hk50 : ∀ (v1 : Int32) (v2 : Int32) (σ : Sg) (r : Int32 × Sg), k50 v1 v2 σ = some r → Gp E RX9 cX9_surplus (some .int) 8 7 SH0 r.2 (some (.int r.1)) σ 50 [(0, .ref 149), (1, .int v1), (2, .int v2)] []) : ∀ (n : Nat) (v1 : Int32) (v2 : Int32) (v3 : Int32) (σ : Sg) (r : Int32 × Sg), X9_surplus_l29 N k50 n v1 v2 v3 σ = some r → Gp E RX9 cX9_surplus (some .int) 8 7 SH0 r.2 (some (.int r.1)) σ 29 [(0, .ref 149), (1, .int v1), (2, .int v2), (3, .int v3)] [] := by
  intro n
  induction n with
  | zero => intro v1 v2 v3 σ r h; cases h
  | succ n ih =>
    intro v1 v2 v3 σ r h Z C hE
    unfold X9_surplus_l29 at h
    refine r_iload_n (pc' := 30) C dX9_surplus_29 rfl 3 rfl ?_
    refine r_aload_n (pc' := 31) C dX9_surplus_30 rfl 0 rfl ?_
    refine r_getI (pc' := 34) C flX9_116 sh_149 rfl dX9_surplus_31 rfl ?_
    refine r_icmp_ge (tgt := 50) (pc' := 37) C dX9_surplus_34 rfl rfl (fun c7 => ?_) (fun c7 => ?_)
    · rw [if_pos c7] at h
      refine r_sub [0, 1, 2] rfl ?_
      exact hk50 _ _ _ _ h Z C hE
    · rw [if_neg c7] at h
      refine r_aload_n (pc' := 38) C dX9_surplus_37 rfl 0 rfl ?_
      refine r_getR (pc' := 41) C flX9_70 sh_149 rfl dX9_surplus_38 rfl ?_
      refine r_iload_n (pc' := 42) C dX9_surplus_41 rfl 3 rfl ?_
      refine r_iconst (pc' := 43) C dX9_surplus_42 rfl kc_0 ?_
      obtain ⟨q8, h⟩ := ck h
      obtain ⟨σ9, e10, h⟩ := bs h
      refine r_iast (pc' := 44) (σ1 := σ9) C sh_165 (vin q8) dX9_surplus_43 rfl e10 ?_
      refine r_iinc (pc' := 47) (v := v3 + 1) (lv2 := [(3, .int (v3 + 1)), (0, .ref 149), (1, .int v1), (2, .int v2)]) C dX9_surplus_44 rfl 3 rfl rfl (Nat.le_of_ble_eq_true rfl) rfl ?_
      refine r_goto (tgt := 29) C dX9_surplus_47 rfl ?_
      refine r_sub [1, 2, 3, 0] rfl ?_
      exact ih _ _ _ _ _ h Z C hE
def X9_surplus_j138 (N : Nat)  (kr : Int32 → Int32 → Int32 → Int32 → Int32 → Int32 → Sg → Option (Int32 × Sg)) (v1 : Int32) (v2 : Int32) (v3 : Int32) (v4 : Int32) (v5 : Int32) (v6 : Int32) (s0 : Int32) (σ : Sg) : Option (Int32 × Sg) :=
  if inb v6 8 = true then if inb v6 8 = true then bnS (wi σ 165 v6.toNatClampNeg ((gi σ 165 v6.toNatClampNeg) + s0)) fun σ23 => kr v1 v2 v3 v4 (v5 - s0) (v6 + 1) σ23 else none else none
set_option maxRecDepth 100000 in
set_option maxHeartbeats 4000000 in
theorem X9_surplus_j138_ok {E : Ev}  {N : Nat} {kr : Int32 → Int32 → Int32 → Int32 → Int32 → Int32 → Sg → Option (Int32 × Sg)}  (hkr : ∀ (v1 : Int32) (v2 : Int32) (v3 : Int32) (v4 : Int32) (v5 : Int32) (v6 : Int32) (σ : Sg) (r : Int32 × Sg), kr v1 v2 v3 v4 v5 v6 σ = some r → Gp E RX9 cX9_surplus (some .int) 8 7 SH0 r.2 (some (.int r.1)) σ 103 [(0, .ref 149), (1, .int v1), (2, .int v2), (3, .int v3), (4, .int v4), (5, .int v5), (6, .int v6)] []) {v1 : Int32} {v2 : Int32} {v3 : Int32} {v4 : Int32} {v5 : Int32} {v6 : Int32} {s0 : Int32} {σ : Sg} {r : Int32 × Sg} (h : X9_surplus_j138 N  kr v1 v2 v3 v4 v5 v6 s0 σ = some r) : Gp E RX9 cX9_surplus (some .int) 8 7 SH0 r.2 (some (.int r.1)) σ 138 [(0, .ref 149), (1, .int v1), (2, .int v2), (3, .int v3), (4, .int v4), (5, .int v5), (6, .int v6)] [.int s0] := by
  intro Z C hE
  unfold X9_surplus_j138 at h
  refine r_istore (pc' := 140) (lv2 := [(7, .int s0), (0, .ref 149), (1, .int v1), (2, .int v2), (3, .int v3), (4, .int v4), (5, .int v5), (6, .int v6)]) C dX9_surplus_138 rfl (Nat.le_of_ble_eq_true rfl) rfl ?_
  refine r_aload_n (pc' := 141) C dX9_surplus_140 rfl 1 rfl ?_
  refine r_getR (pc' := 144) C flX9_70 sh_149 rfl dX9_surplus_141 rfl ?_
  refine r_iload (pc' := 146) C dX9_surplus_144 rfl 7 rfl ?_
  refine r_dup2 (pc' := 147) C dX9_surplus_146 rfl rfl rfl ?_
  obtain ⟨q21, h⟩ := ck h
  refine r_iald (pc' := 148) C sh_165 (vin q21) dX9_surplus_147 rfl ?_
  refine r_iload (pc' := 150) C dX9_surplus_148 rfl 0 rfl ?_
  refine r_iadd (pc' := 151) C dX9_surplus_150 rfl ?_
  obtain ⟨q22, h⟩ := ck h
  obtain ⟨σ23, e24, h⟩ := bs h
  refine r_iast (pc' := 152) (σ1 := σ23) C sh_165 (vin q22) dX9_surplus_151 rfl e24 ?_
  refine r_iload (pc' := 154) C dX9_surplus_152 rfl 6 rfl ?_
  refine r_iload (pc' := 156) C dX9_surplus_154 rfl 0 rfl ?_
  refine r_isub (pc' := 157) C dX9_surplus_156 rfl ?_
  refine r_istore (pc' := 159) (lv2 := [(5, .int (v5 - s0)), (7, .int s0), (0, .ref 149), (1, .int v1), (2, .int v2), (3, .int v3), (4, .int v4), (6, .int v6)]) C dX9_surplus_157 rfl (Nat.le_of_ble_eq_true rfl) rfl ?_
  refine r_iinc (pc' := 162) (v := v6 + 1) (lv2 := [(6, .int (v6 + 1)), (5, .int (v5 - s0)), (7, .int s0), (0, .ref 149), (1, .int v1), (2, .int v2), (3, .int v3), (4, .int v4)]) C dX9_surplus_159 rfl 7 rfl rfl (Nat.le_of_ble_eq_true rfl) rfl ?_
  refine r_goto (tgt := 103) C dX9_surplus_162 rfl ?_
  refine r_sub [3, 4, 5, 6, 7, 1, 0] rfl ?_
  exact hkr _ _ _ _ _ _ _ _ h Z C hE
def X9_surplus_l103 (N : Nat)  (k165 : Int32 → Int32 → Int32 → Sg → Option (Int32 × Sg))  : Nat → Int32 → Int32 → Int32 → Int32 → Int32 → Int32 → Sg → Option (Int32 × Sg)
  | 0, _, _, _, _, _, _, _ => none
  | n + 1, v1, v2, v3, v4, v5, v6, σ =>
    if (gi σ 149 3) ≤ v6 then (k165 v1 v2 v3 σ) else ((X9_has N v4 v6 σ).bind fun r18 => (if r18 = 0 then (X9_surplus_j138 N (fun v1 v2 v3 v4 v5 v6 σ => X9_surplus_l103 N k165 n v1 v2 v3 v4 v5 v6 σ) v1 v2 v3 v4 v5 v6 0 σ) else (if inb v6 37 = true then (J9_min_7cf53 N v5 (gi σ 153 v6.toNatClampNeg) σ).bind fun r26 => (X9_surplus_j138 N (fun v1 v2 v3 v4 v5 v6 σ => X9_surplus_l103 N k165 n v1 v2 v3 v4 v5 v6 σ) v1 v2 v3 v4 v5 v6 r26 σ) else none)))
set_option maxRecDepth 100000 in
set_option maxHeartbeats 4000000 in
theorem X9_surplus_l103_ok {E : Ev}  {N : Nat} {k165 : Int32 → Int32 → Int32 → Sg → Option (Int32 × Sg)}  (hk165 : ∀ (v1 : Int32) (v2 : Int32) (v3 : Int32) (σ : Sg) (r : Int32 × Sg), k165 v1 v2 v3 σ = some r → Gp E RX9 cX9_surplus (some .int) 8 7 SH0 r.2 (some (.int r.1)) σ 165 [(0, .ref 149), (1, .int v1), (2, .int v2), (3, .int v3)] []) : ∀ (n : Nat) (v1 : Int32) (v2 : Int32) (v3 : Int32) (v4 : Int32) (v5 : Int32) (v6 : Int32) (σ : Sg) (r : Int32 × Sg), X9_surplus_l103 N k165 n v1 v2 v3 v4 v5 v6 σ = some r → Gp E RX9 cX9_surplus (some .int) 8 7 SH0 r.2 (some (.int r.1)) σ 103 [(0, .ref 149), (1, .int v1), (2, .int v2), (3, .int v3), (4, .int v4), (5, .int v5), (6, .int v6)] [] := by
  intro n
  induction n with
  | zero => intro v1 v2 v3 v4 v5 v6 σ r h; cases h
  | succ n ih =>
    intro v1 v2 v3 v4 v5 v6 σ r h Z C hE
    unfold X9_surplus_l103 at h
    refine r_iload (pc' := 105) C dX9_surplus_103 rfl 6 rfl ?_
    refine r_aload_n (pc' := 106) C dX9_surplus_105 rfl 0 rfl ?_
    refine r_getI (pc' := 109) C flX9_116 sh_149 rfl dX9_surplus_106 rfl ?_
    refine r_icmp_ge (tgt := 165) (pc' := 112) C dX9_surplus_109 rfl rfl (fun c17 => ?_) (fun c17 => ?_)
    · rw [if_pos c17] at h
      refine r_sub [0, 1, 2, 3] rfl ?_
      exact hk165 _ _ _ _ _ h Z C hE
    · rw [if_neg c17] at h
      refine r_iload (pc' := 114) C dX9_surplus_112 rfl 4 rfl ?_
      refine r_iload (pc' := 116) C dX9_surplus_114 rfl 6 rfl ?_
      obtain ⟨r18, e19, h⟩ := bd h
      refine r_cS1 (pc' := 119) C (X9_has_ok  e19) mlX9_127 ceX9_has csX9_has rfl (Nat.le_of_ble_eq_true rfl) rfl (Nat.le_of_ble_eq_true rfl) dX9_surplus_116 rfl (kk := ?_)
      refine r_if_eq (tgt := 137) (pc' := 122) C dX9_surplus_119 rfl rfl (fun c20 => ?_) (fun c20 => ?_)
      · rw [if_pos c20] at h
        refine r_iconst (pc' := 138) C dX9_surplus_137 rfl kc_0 ?_
        exact X9_surplus_j138_ok  ih h Z C hE
      · rw [if_neg c20] at h
        refine r_iload (pc' := 124) C dX9_surplus_122 rfl 5 rfl ?_
        refine r_aload_n (pc' := 125) C dX9_surplus_124 rfl 0 rfl ?_
        refine r_getR (pc' := 128) C flX9_34 sh_149 rfl dX9_surplus_125 rfl ?_
        refine r_iload (pc' := 130) C dX9_surplus_128 rfl 6 rfl ?_
        obtain ⟨q25, h⟩ := ck h
        refine r_iald (pc' := 131) C sh_153 (vin q25) dX9_surplus_130 rfl ?_
        obtain ⟨r26, e27, h⟩ := bd h
        refine r_cS1 (pc' := 134) C (J9_min_7cf53_ok  e27) mlX9_150 ceJ9_min_7cf53 csJ9_min_7cf53 rfl (Nat.le_of_ble_eq_true rfl) rfl (Nat.le_of_ble_eq_true rfl) dX9_surplus_131 rfl (kk := ?_)
        refine r_goto (tgt := 138) C dX9_surplus_134 rfl ?_
        exact X9_surplus_j138_ok  ih h Z C hE
def X9_surplus_j165 (N : Nat)  (kr : Int32 → Int32 → Int32 → Sg → Option (Int32 × Sg)) (v1 : Int32) (v2 : Int32) (v3 : Int32) (σ : Sg) : Option (Int32 × Sg) :=
  kr v1 v2 (v3 + 1) σ
set_option maxRecDepth 100000 in
set_option maxHeartbeats 4000000 in
theorem X9_surplus_j165_ok {E : Ev}  {N : Nat} {kr : Int32 → Int32 → Int32 → Sg → Option (Int32 × Sg)}  (hkr : ∀ (v1 : Int32) (v2 : Int32) (v3 : Int32) (σ : Sg) (r : Int32 × Sg), kr v1 v2 v3 σ = some r → Gp E RX9 cX9_surplus (some .int) 8 7 SH0 r.2 (some (.int r.1)) σ 52 [(0, .ref 149), (1, .int v1), (2, .int v2), (3, .int v3)] []) {v1 : Int32} {v2 : Int32} {v3 : Int32} {σ : Sg} {r : Int32 × Sg} (h : X9_surplus_j165 N  kr v1 v2 v3 σ = some r) : Gp E RX9 cX9_surplus (some .int) 8 7 SH0 r.2 (some (.int r.1)) σ 165 [(0, .ref 149), (1, .int v1), (2, .int v2), (3, .int v3)] [] := by
  intro Z C hE
  unfold X9_surplus_j165 at h
  refine r_iinc (pc' := 168) (v := v3 + 1) (lv2 := [(3, .int (v3 + 1)), (0, .ref 149), (1, .int v1), (2, .int v2)]) C dX9_surplus_165 rfl 3 rfl rfl (Nat.le_of_ble_eq_true rfl) rfl ?_
  refine r_goto (tgt := 52) C dX9_surplus_168 rfl ?_
  refine r_sub [1, 2, 3, 0] rfl ?_
  exact hkr _ _ _ _ _ h Z C hE
def X9_surplus_j81 (N : Nat)  (kr : Int32 → Int32 → Int32 → Sg → Option (Int32 × Sg)) (v1 : Int32) (v2 : Int32) (v3 : Int32) (s0 : Int32) (σ : Sg) : Option (Int32 × Sg) :=
  (X9_above N 153 s0 σ).bind fun r15 => (X9_surplus_l103 N (fun v1 v2 v3 σ => X9_surplus_j165 N kr v1 v2 v3 σ) N v1 (v2 + r15.1) v3 s0 r15.1 0 r15.2)
set_option maxRecDepth 100000 in
set_option maxHeartbeats 4000000 in
theorem X9_surplus_j81_ok {E : Ev}  {N : Nat} {kr : Int32 → Int32 → Int32 → Sg → Option (Int32 × Sg)}  (hkr : ∀ (v1 : Int32) (v2 : Int32) (v3 : Int32) (σ : Sg) (r : Int32 × Sg), kr v1 v2 v3 σ = some r → Gp E RX9 cX9_surplus (some .int) 8 7 SH0 r.2 (some (.int r.1)) σ 52 [(0, .ref 149), (1, .int v1), (2, .int v2), (3, .int v3)] []) {v1 : Int32} {v2 : Int32} {v3 : Int32} {s0 : Int32} {σ : Sg} {r : Int32 × Sg} (h : X9_surplus_j81 N  kr v1 v2 v3 s0 σ = some r) : Gp E RX9 cX9_surplus (some .int) 8 7 SH0 r.2 (some (.int r.1)) σ 81 [(0, .ref 149), (1, .int v1), (2, .int v2), (3, .int v3)] [.int s0] := by
  intro Z C hE
  unfold X9_surplus_j81 at h
  refine r_istore (pc' := 83) (lv2 := [(4, .int s0), (0, .ref 149), (1, .int v1), (2, .int v2), (3, .int v3)]) C dX9_surplus_81 rfl (Nat.le_of_ble_eq_true rfl) rfl ?_
  refine r_aload_n (pc' := 84) C dX9_surplus_83 rfl 1 rfl ?_
  refine r_aload_n (pc' := 85) C dX9_surplus_84 rfl 1 rfl ?_
  refine r_getR (pc' := 88) C flX9_34 sh_149 rfl dX9_surplus_85 rfl ?_
  refine r_iload (pc' := 90) C dX9_surplus_88 rfl 0 rfl ?_
  obtain ⟨r15, e16, h⟩ := bd h
  refine r_cV1 (pc' := 93) C (X9_above_ok mac_153 e16) mlX9_287 ceX9_above cvX9_above sh_149 rfl rfl rfl (Nat.le_of_ble_eq_true rfl) rfl (Nat.le_of_ble_eq_true rfl) dX9_surplus_90 rfl (kk := ?_)
  refine r_istore (pc' := 95) (lv2 := [(5, .int r15.1), (4, .int s0), (0, .ref 149), (1, .int v1), (2, .int v2), (3, .int v3)]) C dX9_surplus_93 rfl (Nat.le_of_ble_eq_true rfl) rfl ?_
  refine r_iload_n (pc' := 96) C dX9_surplus_95 rfl 4 rfl ?_
  refine r_iload (pc' := 98) C dX9_surplus_96 rfl 0 rfl ?_
  refine r_iadd (pc' := 99) C dX9_surplus_98 rfl ?_
  refine r_istore_n (pc' := 100) (lv2 := [(2, .int (v2 + r15.1)), (5, .int r15.1), (4, .int s0), (0, .ref 149), (1, .int v1), (3, .int v3)]) C dX9_surplus_99 rfl rfl (Nat.le_of_ble_eq_true rfl) rfl ?_
  refine r_iconst (pc' := 101) C dX9_surplus_100 rfl kc_0 ?_
  refine r_istore (pc' := 103) (lv2 := [(6, .int 0), (2, .int (v2 + r15.1)), (5, .int r15.1), (4, .int s0), (0, .ref 149), (1, .int v1), (3, .int v3)]) C dX9_surplus_101 rfl (Nat.le_of_ble_eq_true rfl) rfl ?_
  refine r_sub [4, 5, 1, 6, 3, 2, 0] rfl ?_
  exact X9_surplus_l103_ok  (fun _ _ _ _ _ h Z C hE => by exact X9_surplus_j165_ok  hkr h Z C hE) N _ _ _ _ _ _ _ _ h Z C hE
def X9_surplus_l52 (N : Nat)  (k171 : Int32 → Sg → Option (Int32 × Sg))  : Nat → Int32 → Int32 → Int32 → Sg → Option (Int32 × Sg)
  | 0, _, _, _, _ => none
  | n + 1, v1, v2, v3, σ =>
    if (gi σ 149 3) ≤ v3 then (k171 v2 σ) else ((X9_has N v1 v3 σ).bind fun r12 => (if r12 = 0 then (X9_surplus_j81 N (fun v1 v2 v3 σ => X9_surplus_l52 N k171 n v1 v2 v3 σ) v1 v2 v3 0 σ) else ((X9_bundle N 153 v3 σ).bind fun r28 => (X9_surplus_j81 N (fun v1 v2 v3 σ => X9_surplus_l52 N k171 n v1 v2 v3 σ) v1 v2 v3 r28 σ))))
set_option maxRecDepth 100000 in
set_option maxHeartbeats 4000000 in
theorem X9_surplus_l52_ok {E : Ev}  {N : Nat} {k171 : Int32 → Sg → Option (Int32 × Sg)}  (hk171 : ∀ (v2 : Int32) (σ : Sg) (r : Int32 × Sg), k171 v2 σ = some r → Gp E RX9 cX9_surplus (some .int) 8 7 SH0 r.2 (some (.int r.1)) σ 171 [(0, .ref 149), (2, .int v2)] []) : ∀ (n : Nat) (v1 : Int32) (v2 : Int32) (v3 : Int32) (σ : Sg) (r : Int32 × Sg), X9_surplus_l52 N k171 n v1 v2 v3 σ = some r → Gp E RX9 cX9_surplus (some .int) 8 7 SH0 r.2 (some (.int r.1)) σ 52 [(0, .ref 149), (1, .int v1), (2, .int v2), (3, .int v3)] [] := by
  intro n
  induction n with
  | zero => intro v1 v2 v3 σ r h; cases h
  | succ n ih =>
    intro v1 v2 v3 σ r h Z C hE
    unfold X9_surplus_l52 at h
    refine r_iload_n (pc' := 53) C dX9_surplus_52 rfl 3 rfl ?_
    refine r_aload_n (pc' := 54) C dX9_surplus_53 rfl 0 rfl ?_
    refine r_getI (pc' := 57) C flX9_116 sh_149 rfl dX9_surplus_54 rfl ?_
    refine r_icmp_ge (tgt := 171) (pc' := 60) C dX9_surplus_57 rfl rfl (fun c11 => ?_) (fun c11 => ?_)
    · rw [if_pos c11] at h
      refine r_sub [0, 2] rfl ?_
      exact hk171 _ _ _ h Z C hE
    · rw [if_neg c11] at h
      refine r_iload_n (pc' := 61) C dX9_surplus_60 rfl 1 rfl ?_
      refine r_iload_n (pc' := 62) C dX9_surplus_61 rfl 3 rfl ?_
      obtain ⟨r12, e13, h⟩ := bd h
      refine r_cS1 (pc' := 65) C (X9_has_ok  e13) mlX9_127 ceX9_has csX9_has rfl (Nat.le_of_ble_eq_true rfl) rfl (Nat.le_of_ble_eq_true rfl) dX9_surplus_62 rfl (kk := ?_)
      refine r_if_eq (tgt := 80) (pc' := 68) C dX9_surplus_65 rfl rfl (fun c14 => ?_) (fun c14 => ?_)
      · rw [if_pos c14] at h
        refine r_iconst (pc' := 81) C dX9_surplus_80 rfl kc_0 ?_
        exact X9_surplus_j81_ok  ih h Z C hE
      · rw [if_neg c14] at h
        refine r_aload_n (pc' := 69) C dX9_surplus_68 rfl 0 rfl ?_
        refine r_aload_n (pc' := 70) C dX9_surplus_69 rfl 0 rfl ?_
        refine r_getR (pc' := 73) C flX9_34 sh_149 rfl dX9_surplus_70 rfl ?_
        refine r_iload_n (pc' := 74) C dX9_surplus_73 rfl 3 rfl ?_
        obtain ⟨r28, e29, h⟩ := bd h
        refine r_cV1 (pc' := 77) C (X9_bundle_ok mac_153 e29) mlX9_281 ceX9_bundle cvX9_bundle sh_149 rfl rfl rfl (Nat.le_of_ble_eq_true rfl) rfl (Nat.le_of_ble_eq_true rfl) dX9_surplus_74 rfl (kk := ?_)
        refine r_goto (tgt := 81) C dX9_surplus_77 rfl ?_
        exact X9_surplus_j81_ok  ih h Z C hE
def X9_surplus_l178 (N : Nat)    : Nat → Int32 → Int32 → Sg → Option (Int32 × Sg)
  | 0, _, _, _ => none
  | n + 1, v2, v3, σ =>
    if (gi σ 149 3) ≤ v3 then (some (v2, σ)) else (if inb v3 8 = true then (X9_enters N ((gi σ 165 v3.toNatClampNeg).toInt64) σ).bind fun r34 => (X9_surplus_l178 N n v2 (v3 + 1) r34) else none)
set_option maxRecDepth 100000 in
set_option maxHeartbeats 4000000 in
theorem X9_surplus_l178_ok {E : Ev}  {N : Nat}    : ∀ (n : Nat) (v2 : Int32) (v3 : Int32) (σ : Sg) (r : Int32 × Sg), X9_surplus_l178 N n v2 v3 σ = some r → Gp E RX9 cX9_surplus (some .int) 8 7 SH0 r.2 (some (.int r.1)) σ 178 [(0, .ref 149), (2, .int v2), (3, .int v3)] [] := by
  intro n
  induction n with
  | zero => intro v2 v3 σ r h; cases h
  | succ n ih =>
    intro v2 v3 σ r h Z C hE
    unfold X9_surplus_l178 at h
    refine r_iload_n (pc' := 179) C dX9_surplus_178 rfl 2 rfl ?_
    refine r_aload_n (pc' := 180) C dX9_surplus_179 rfl 0 rfl ?_
    refine r_getI (pc' := 183) C flX9_116 sh_149 rfl dX9_surplus_180 rfl ?_
    refine r_icmp_ge (tgt := 203) (pc' := 186) C dX9_surplus_183 rfl rfl (fun c32 => ?_) (fun c32 => ?_)
    · rw [if_pos c32] at h
      refine r_iload_n (pc' := 204) C dX9_surplus_203 rfl 1 rfl ?_
      have h := Option.some.inj h
      subst h
      exact r_ret C rfl dX9_surplus_204 hE
    · rw [if_neg c32] at h
      refine r_aload_n (pc' := 187) C dX9_surplus_186 rfl 0 rfl ?_
      refine r_aload_n (pc' := 188) C dX9_surplus_187 rfl 0 rfl ?_
      refine r_getR (pc' := 191) C flX9_70 sh_149 rfl dX9_surplus_188 rfl ?_
      refine r_iload_n (pc' := 192) C dX9_surplus_191 rfl 2 rfl ?_
      obtain ⟨q33, h⟩ := ck h
      refine r_iald (pc' := 193) C sh_165 (vin q33) dX9_surplus_192 rfl ?_
      refine r_i2l (pc' := 194) C dX9_surplus_193 rfl rfl ?_
      obtain ⟨r34, e35, h⟩ := bd h
      refine r_cV0 (pc' := 197) C (X9_enters_ok  e35) mlX9_327 ceX9_enters cvX9_enters sh_149 rfl rfl rfl (Nat.le_of_ble_eq_true rfl) rfl (Nat.le_of_ble_eq_true rfl) dX9_surplus_194 rfl (kk := ?_)
      refine r_iinc (pc' := 200) (v := v3 + 1) (lv2 := [(3, .int (v3 + 1)), (0, .ref 149), (2, .int v2)]) C dX9_surplus_197 rfl 2 rfl rfl (Nat.le_of_ble_eq_true rfl) rfl ?_
      refine r_goto (tgt := 178) C dX9_surplus_200 rfl ?_
      refine r_sub [1, 2, 0] rfl ?_
      exact ih _ _ _ _ h Z C hE
def X9_surplus_j171 (N : Nat)   (v2 : Int32) (σ : Sg) : Option (Int32 × Sg) :=
  bnS (wi σ 149 1 0) fun σ30 => X9_surplus_l178 N N v2 0 σ30
set_option maxRecDepth 100000 in
set_option maxHeartbeats 4000000 in
theorem X9_surplus_j171_ok {E : Ev}  {N : Nat}    {v2 : Int32} {σ : Sg} {r : Int32 × Sg} (h : X9_surplus_j171 N   v2 σ = some r) : Gp E RX9 cX9_surplus (some .int) 8 7 SH0 r.2 (some (.int r.1)) σ 171 [(0, .ref 149), (2, .int v2)] [] := by
  intro Z C hE
  unfold X9_surplus_j171 at h
  refine r_aload_n (pc' := 172) C dX9_surplus_171 rfl 0 rfl ?_
  refine r_iconst (pc' := 173) C dX9_surplus_172 rfl kc_0 ?_
  obtain ⟨σ30, e31, h⟩ := bs h
  refine r_putI (pc' := 176) (σ1 := σ30) C fpX9_15 sh_149 rfl rfl rfl dX9_surplus_173 rfl e31 ?_
  refine r_iconst (pc' := 177) C dX9_surplus_176 rfl kc_0 ?_
  refine r_istore_n (pc' := 178) (lv2 := [(3, .int 0), (0, .ref 149), (2, .int v2)]) C dX9_surplus_177 rfl rfl (Nat.le_of_ble_eq_true rfl) rfl ?_
  refine r_sub [1, 2, 0] rfl ?_
  exact X9_surplus_l178_ok  N _ _ _ _ h Z C hE
def X9_surplus_j50 (N : Nat)   (v1 : Int32) (v2 : Int32) (σ : Sg) : Option (Int32 × Sg) :=
  X9_surplus_l52 N (fun v2 σ => X9_surplus_j171 N v2 σ) N v1 v2 0 σ
set_option maxRecDepth 100000 in
set_option maxHeartbeats 4000000 in
theorem X9_surplus_j50_ok {E : Ev}  {N : Nat}    {v1 : Int32} {v2 : Int32} {σ : Sg} {r : Int32 × Sg} (h : X9_surplus_j50 N   v1 v2 σ = some r) : Gp E RX9 cX9_surplus (some .int) 8 7 SH0 r.2 (some (.int r.1)) σ 50 [(0, .ref 149), (1, .int v1), (2, .int v2)] [] := by
  intro Z C hE
  unfold X9_surplus_j50 at h
  refine r_iconst (pc' := 51) C dX9_surplus_50 rfl kc_0 ?_
  refine r_istore_n (pc' := 52) (lv2 := [(3, .int 0), (0, .ref 149), (1, .int v1), (2, .int v2)]) C dX9_surplus_51 rfl rfl (Nat.le_of_ble_eq_true rfl) rfl ?_
  refine r_sub [1, 2, 3, 0] rfl ?_
  exact X9_surplus_l52_ok  (fun _ _ _ h Z C hE => by exact X9_surplus_j171_ok  h Z C hE) N _ _ _ _ _ h Z C hE
def X9_surplus (N : Nat)   (σ : Sg) : Option (Int32 × Sg) :=
  bnS (wi σ 149 0 0) fun σ1 => (X9_firstOnes N 153 σ1).bind fun r3 => ((X9_floating N 153 σ1).bind fun r5 => (X9_surplus_l29 N (fun v1 v2 σ => X9_surplus_j50 N v1 v2 σ) N (r3 &&& (r5.1 ^^^ (-1))) 0 0 r5.2))
set_option maxRecDepth 100000 in
set_option maxHeartbeats 4000000 in
theorem X9_surplus_ok {E : Ev}  {N : Nat}  {σ : Sg} {r : Int32 × Sg} (h : X9_surplus N   σ = some r) : Cm E 7 yX9_surplus cX9_surplus 8 (some .int) [.ref 149] SH0 SH0 σ r.2 (some (.int r.1)) 0 0 := by
  refine Cm.intro (by decide +kernel) (Nat.le_of_ble_eq_true rfl) (fun _ h => by obtain ⟨_, _, _, _, _, _, h⟩ := h; exact h) (fun Z C hE => ?_)
  show Wm E Z 0 0 SH0 σ 0 [(0, .ref 149)] []
  unfold X9_surplus at h
  refine r_aload_n (pc' := 1) C dX9_surplus_0 rfl 0 rfl ?_
  refine r_iconst (pc' := 2) C dX9_surplus_1 rfl kc_0 ?_
  obtain ⟨σ1, e2, h⟩ := bs h
  refine r_putI (pc' := 5) (σ1 := σ1) C fpX9_3 sh_149 rfl rfl rfl dX9_surplus_2 rfl e2 ?_
  refine r_aload_n (pc' := 6) C dX9_surplus_5 rfl 0 rfl ?_
  refine r_aload_n (pc' := 7) C dX9_surplus_6 rfl 0 rfl ?_
  refine r_getR (pc' := 10) C flX9_34 sh_149 rfl dX9_surplus_7 rfl ?_
  obtain ⟨r3, e4, h⟩ := bd h
  refine r_cV1 (pc' := 13) C (X9_firstOnes_ok mac_153 e4) mlX9_359 ceX9_firstOnes cvX9_firstOnes sh_149 rfl rfl rfl (Nat.le_of_ble_eq_true rfl) rfl (Nat.le_of_ble_eq_true rfl) dX9_surplus_10 rfl (kk := ?_)
  refine r_aload_n (pc' := 14) C dX9_surplus_13 rfl 0 rfl ?_
  refine r_aload_n (pc' := 15) C dX9_surplus_14 rfl 0 rfl ?_
  refine r_getR (pc' := 18) C flX9_34 sh_149 rfl dX9_surplus_15 rfl ?_
  obtain ⟨r5, e6, h⟩ := bd h
  refine r_cV1 (pc' := 21) C (X9_floating_ok mac_153 e6) mlX9_303 ceX9_floating cvX9_floating sh_149 rfl rfl rfl (Nat.le_of_ble_eq_true rfl) rfl (Nat.le_of_ble_eq_true rfl) dX9_surplus_18 rfl (kk := ?_)
  refine r_iconst (pc' := 22) C dX9_surplus_21 rfl kc_m1 ?_
  refine r_ixor (pc' := 23) C dX9_surplus_22 rfl ?_
  refine r_iand (pc' := 24) C dX9_surplus_23 rfl ?_
  refine r_istore_n (pc' := 25) (lv2 := [(1, .int (r3 &&& (r5.1 ^^^ (-1)))), (0, .ref 149)]) C dX9_surplus_24 rfl rfl (Nat.le_of_ble_eq_true rfl) rfl ?_
  refine r_iconst (pc' := 26) C dX9_surplus_25 rfl kc_0 ?_
  refine r_istore_n (pc' := 27) (lv2 := [(2, .int 0), (1, .int (r3 &&& (r5.1 ^^^ (-1)))), (0, .ref 149)]) C dX9_surplus_26 rfl rfl (Nat.le_of_ble_eq_true rfl) rfl ?_
  refine r_iconst (pc' := 28) C dX9_surplus_27 rfl kc_0 ?_
  refine r_istore_n (pc' := 29) (lv2 := [(3, .int 0), (2, .int 0), (1, .int (r3 &&& (r5.1 ^^^ (-1)))), (0, .ref 149)]) C dX9_surplus_28 rfl rfl (Nat.le_of_ble_eq_true rfl) rfl ?_
  refine r_sub [3, 2, 1, 0] rfl ?_
  exact X9_surplus_l29_ok  (fun _ _ _ _ h Z C hE => by exact X9_surplus_j50_ok  h Z C hE) N _ _ _ _ _ h Z C hE

/-! BorrowedWeightModel.vital()I -/
def X9_vital_j144 (N : Nat)  (kr : Int32 → Int32 → Int32 → Int32 → Int32 → Int32 → Sg → Option (Int32 × Sg)) (v1 : Int32) (v2 : Int32) (v3 : Int32) (v5 : Int32) (v6 : Int32) (v7 : Int32) (s0 : Int32) (σ : Sg) : Option (Int32 × Sg) :=
  (X9_flag N v7 σ).bind fun r22 => (kr v1 (v2 + r22) v3 s0 v5 (v6 + 1) σ)
set_option maxRecDepth 100000 in
set_option maxHeartbeats 4000000 in
theorem X9_vital_j144_ok {E : Ev}  {N : Nat} {kr : Int32 → Int32 → Int32 → Int32 → Int32 → Int32 → Sg → Option (Int32 × Sg)}  (hkr : ∀ (v1 : Int32) (v2 : Int32) (v3 : Int32) (v4 : Int32) (v5 : Int32) (v6 : Int32) (σ : Sg) (r : Int32 × Sg), kr v1 v2 v3 v4 v5 v6 σ = some r → Gp E RX9 cX9_vital (some .int) 8 7 SH0 r.2 (some (.int r.1)) σ 50 [(0, .ref 149), (1, .int v1), (2, .int v2), (3, .int v3), (4, .int v4), (5, .int v5), (6, .int v6)] []) {v1 : Int32} {v2 : Int32} {v3 : Int32} {v5 : Int32} {v6 : Int32} {v7 : Int32} {s0 : Int32} {σ : Sg} {r : Int32 × Sg} (h : X9_vital_j144 N  kr v1 v2 v3 v5 v6 v7 s0 σ = some r) : Gp E RX9 cX9_vital (some .int) 8 7 SH0 r.2 (some (.int r.1)) σ 144 [(0, .ref 149), (1, .int v1), (2, .int v2), (3, .int v3), (5, .int v5), (6, .int v6), (7, .int v7)] [.int s0] := by
  intro Z C hE
  unfold X9_vital_j144 at h
  refine r_istore (pc' := 146) (lv2 := [(4, .int s0), (0, .ref 149), (1, .int v1), (2, .int v2), (3, .int v3), (5, .int v5), (6, .int v6), (7, .int v7)]) C dX9_vital_144 rfl (Nat.le_of_ble_eq_true rfl) rfl ?_
  refine r_iload_n (pc' := 147) C dX9_vital_146 rfl 3 rfl ?_
  refine r_iload (pc' := 149) C dX9_vital_147 rfl 7 rfl ?_
  obtain ⟨r22, e23, h⟩ := bd h
  refine r_cS1 (pc' := 152) C (X9_flag_ok  e23) mlX9_159 ceX9_flag csX9_flag rfl (Nat.le_of_ble_eq_true rfl) rfl (Nat.le_of_ble_eq_true rfl) dX9_vital_149 rfl (kk := ?_)
  refine r_iadd (pc' := 153) C dX9_vital_152 rfl ?_
  refine r_istore_n (pc' := 154) (lv2 := [(2, .int (v2 + r22)), (4, .int s0), (0, .ref 149), (1, .int v1), (3, .int v3), (5, .int v5), (6, .int v6), (7, .int v7)]) C dX9_vital_153 rfl rfl (Nat.le_of_ble_eq_true rfl) rfl ?_
  refine r_iinc (pc' := 157) (v := v6 + 1) (lv2 := [(6, .int (v6 + 1)), (2, .int (v2 + r22)), (4, .int s0), (0, .ref 149), (1, .int v1), (3, .int v3), (5, .int v5), (7, .int v7)]) C dX9_vital_154 rfl 6 rfl rfl (Nat.le_of_ble_eq_true rfl) rfl ?_
  refine r_goto (tgt := 50) C dX9_vital_157 rfl ?_
  refine r_sub [3, 4, 1, 5, 2, 6, 0] rfl ?_
  exact hkr _ _ _ _ _ _ _ _ h Z C hE
def X9_vital_j127 (N : Nat)  (kr : Int32 → Int32 → Int32 → Int32 → Int32 → Int32 → Sg → Option (Int32 × Sg)) (v1 : Int32) (v2 : Int32) (v4 : Int32) (v5 : Int32) (v6 : Int32) (v7 : Int32) (s0 : Int32) (σ : Sg) : Option (Int32 × Sg) :=
  if v7 = 0 then (X9_vital_j144 N kr v1 v2 s0 v5 v6 v7 v4 σ) else (if v2 = 0 then (X9_vital_j144 N kr v1 v2 s0 v5 v6 v7 v6 σ) else (X9_vital_j144 N kr v1 v2 s0 v5 v6 v7 v4 σ))
set_option maxRecDepth 100000 in
set_option maxHeartbeats 4000000 in
theorem X9_vital_j127_ok {E : Ev}  {N : Nat} {kr : Int32 → Int32 → Int32 → Int32 → Int32 → Int32 → Sg → Option (Int32 × Sg)}  (hkr : ∀ (v1 : Int32) (v2 : Int32) (v3 : Int32) (v4 : Int32) (v5 : Int32) (v6 : Int32) (σ : Sg) (r : Int32 × Sg), kr v1 v2 v3 v4 v5 v6 σ = some r → Gp E RX9 cX9_vital (some .int) 8 7 SH0 r.2 (some (.int r.1)) σ 50 [(0, .ref 149), (1, .int v1), (2, .int v2), (3, .int v3), (4, .int v4), (5, .int v5), (6, .int v6)] []) {v1 : Int32} {v2 : Int32} {v4 : Int32} {v5 : Int32} {v6 : Int32} {v7 : Int32} {s0 : Int32} {σ : Sg} {r : Int32 × Sg} (h : X9_vital_j127 N  kr v1 v2 v4 v5 v6 v7 s0 σ = some r) : Gp E RX9 cX9_vital (some .int) 8 7 SH0 r.2 (some (.int r.1)) σ 127 [(0, .ref 149), (1, .int v1), (2, .int v2), (4, .int v4), (5, .int v5), (6, .int v6), (7, .int v7)] [.int s0] := by
  intro Z C hE
  unfold X9_vital_j127 at h
  refine r_istore_n (pc' := 128) (lv2 := [(3, .int s0), (0, .ref 149), (1, .int v1), (2, .int v2), (4, .int v4), (5, .int v5), (6, .int v6), (7, .int v7)]) C dX9_vital_127 rfl rfl (Nat.le_of_ble_eq_true rfl) rfl ?_
  refine r_iload (pc' := 130) C dX9_vital_128 rfl 7 rfl ?_
  refine r_if_eq (tgt := 142) (pc' := 133) C dX9_vital_130 rfl rfl (fun c21 => ?_) (fun c21 => ?_)
  · rw [if_pos c21] at h
    refine r_iload (pc' := 144) C dX9_vital_142 rfl 4 rfl ?_
    refine r_sub [1, 2, 3, 0, 5, 6, 7] rfl ?_
    exact X9_vital_j144_ok  hkr h Z C hE
  · rw [if_neg c21] at h
    refine r_iload_n (pc' := 134) C dX9_vital_133 rfl 3 rfl ?_
    refine r_if_ne (tgt := 142) (pc' := 137) C dX9_vital_134 rfl rfl (fun c24 => ?_) (fun c24 => ?_)
    · rw [if_neg c24] at h
      refine r_iload (pc' := 144) C dX9_vital_142 rfl 4 rfl ?_
      refine r_sub [1, 2, 3, 0, 5, 6, 7] rfl ?_
      exact X9_vital_j144_ok  hkr h Z C hE
    · rw [if_pos c24] at h
      refine r_iload (pc' := 139) C dX9_vital_137 rfl 6 rfl ?_
      refine r_goto (tgt := 144) C dX9_vital_139 rfl ?_
      refine r_sub [1, 2, 3, 0, 5, 6, 7] rfl ?_
      exact X9_vital_j144_ok  hkr h Z C hE
def X9_vital_j110 (N : Nat)  (kr : Int32 → Int32 → Int32 → Int32 → Int32 → Int32 → Sg → Option (Int32 × Sg)) (v1 : Int32) (v2 : Int32) (v3 : Int32) (v4 : Int32) (v5 : Int32) (v6 : Int32) (s0 : Int32) (σ : Sg) : Option (Int32 × Sg) :=
  if s0 = 0 then (X9_vital_j127 N kr v1 v2 v4 v5 v6 s0 v3 σ) else (if v2 = 0 then (X9_vital_j127 N kr v1 v2 v4 v5 v6 s0 v5 σ) else (X9_vital_j127 N kr v1 v2 v4 v5 v6 s0 v3 σ))
set_option maxRecDepth 100000 in
set_option maxHeartbeats 4000000 in
theorem X9_vital_j110_ok {E : Ev}  {N : Nat} {kr : Int32 → Int32 → Int32 → Int32 → Int32 → Int32 → Sg → Option (Int32 × Sg)}  (hkr : ∀ (v1 : Int32) (v2 : Int32) (v3 : Int32) (v4 : Int32) (v5 : Int32) (v6 : Int32) (σ : Sg) (r : Int32 × Sg), kr v1 v2 v3 v4 v5 v6 σ = some r → Gp E RX9 cX9_vital (some .int) 8 7 SH0 r.2 (some (.int r.1)) σ 50 [(0, .ref 149), (1, .int v1), (2, .int v2), (3, .int v3), (4, .int v4), (5, .int v5), (6, .int v6)] []) {v1 : Int32} {v2 : Int32} {v3 : Int32} {v4 : Int32} {v5 : Int32} {v6 : Int32} {s0 : Int32} {σ : Sg} {r : Int32 × Sg} (h : X9_vital_j110 N  kr v1 v2 v3 v4 v5 v6 s0 σ = some r) : Gp E RX9 cX9_vital (some .int) 8 7 SH0 r.2 (some (.int r.1)) σ 110 [(0, .ref 149), (1, .int v1), (2, .int v2), (3, .int v3), (4, .int v4), (5, .int v5), (6, .int v6)] [.int s0] := by
  intro Z C hE
  unfold X9_vital_j110 at h
  refine r_istore (pc' := 112) (lv2 := [(7, .int s0), (0, .ref 149), (1, .int v1), (2, .int v2), (3, .int v3), (4, .int v4), (5, .int v5), (6, .int v6)]) C dX9_vital_110 rfl (Nat.le_of_ble_eq_true rfl) rfl ?_
  refine r_iload (pc' := 114) C dX9_vital_112 rfl 0 rfl ?_
  refine r_if_eq (tgt := 126) (pc' := 117) C dX9_vital_114 rfl rfl (fun c20 => ?_) (fun c20 => ?_)
  · rw [if_pos c20] at h
    refine r_iload_n (pc' := 127) C dX9_vital_126 rfl 4 rfl ?_
    refine r_sub [1, 2, 3, 5, 6, 7, 0] rfl ?_
    exact X9_vital_j127_ok  hkr h Z C hE
  · rw [if_neg c20] at h
    refine r_iload_n (pc' := 118) C dX9_vital_117 rfl 3 rfl ?_
    refine r_if_ne (tgt := 126) (pc' := 121) C dX9_vital_118 rfl rfl (fun c25 => ?_) (fun c25 => ?_)
    · rw [if_neg c25] at h
      refine r_iload_n (pc' := 127) C dX9_vital_126 rfl 4 rfl ?_
      refine r_sub [1, 2, 3, 5, 6, 7, 0] rfl ?_
      exact X9_vital_j127_ok  hkr h Z C hE
    · rw [if_pos c25] at h
      refine r_iload (pc' := 123) C dX9_vital_121 rfl 6 rfl ?_
      refine r_goto (tgt := 127) C dX9_vital_123 rfl ?_
      refine r_sub [1, 2, 3, 5, 6, 7, 0] rfl ?_
      exact X9_vital_j127_ok  hkr h Z C hE
def X9_vital_l50 (N : Nat)  (k160 : Int32 → Int32 → Int32 → Int32 → Int32 → Sg → Option (Int32 × Sg))  : Nat → Int32 → Int32 → Int32 → Int32 → Int32 → Int32 → Sg → Option (Int32 × Sg)
  | 0, _, _, _, _, _, _, _ => none
  | n + 1, v1, v2, v3, v4, v5, v6, σ =>
    if (gi σ 149 3) ≤ v6 then (k160 v1 v2 v3 v4 v5 σ) else (if inb (24 + v5) 37 = true then (X9_has N (gi σ 153 (24 + v5).toNatClampNeg) v6 σ).bind fun r10 => (if r10 = 0 then (X9_vital_l50 N k160 n v1 v2 v3 v4 v5 (v6 + 1) σ) else ((X9_copies N σ).bind fun r13 => ((X9_toggles N 154 v5 v6 r13).bind fun r15 => ((X9_floating N 154 r15).bind fun r17 => (if (r17.1 &&& v1) = 0 then (X9_vital_j110 N (fun v1 v2 v3 v4 v5 v6 σ => X9_vital_l50 N k160 n v1 v2 v3 v4 v5 v6 σ) v1 v2 v3 v4 v5 v6 0 r17.2) else (X9_vital_j110 N (fun v1 v2 v3 v4 v5 v6 σ => X9_vital_l50 N k160 n v1 v2 v3 v4 v5 v6 σ) v1 v2 v3 v4 v5 v6 1 r17.2)))))) else none)
set_option maxRecDepth 100000 in
set_option maxHeartbeats 4000000 in
theorem X9_vital_l50_ok {E : Ev}  {N : Nat} {k160 : Int32 → Int32 → Int32 → Int32 → Int32 → Sg → Option (Int32 × Sg)}  (hk160 : ∀ (v1 : Int32) (v2 : Int32) (v3 : Int32) (v4 : Int32) (v5 : Int32) (σ : Sg) (r : Int32 × Sg), k160 v1 v2 v3 v4 v5 σ = some r → Gp E RX9 cX9_vital (some .int) 8 7 SH0 r.2 (some (.int r.1)) σ 160 [(0, .ref 149), (1, .int v1), (2, .int v2), (3, .int v3), (4, .int v4), (5, .int v5)] []) : ∀ (n : Nat) (v1 : Int32) (v2 : Int32) (v3 : Int32) (v4 : Int32) (v5 : Int32) (v6 : Int32) (σ : Sg) (r : Int32 × Sg), X9_vital_l50 N k160 n v1 v2 v3 v4 v5 v6 σ = some r → Gp E RX9 cX9_vital (some .int) 8 7 SH0 r.2 (some (.int r.1)) σ 50 [(0, .ref 149), (1, .int v1), (2, .int v2), (3, .int v3), (4, .int v4), (5, .int v5), (6, .int v6)] [] := by
  intro n
  induction n with
  | zero => intro v1 v2 v3 v4 v5 v6 σ r h; cases h
  | succ n ih =>
    intro v1 v2 v3 v4 v5 v6 σ r h Z C hE
    unfold X9_vital_l50 at h
    refine r_iload (pc' := 52) C dX9_vital_50 rfl 6 rfl ?_
    refine r_aload_n (pc' := 53) C dX9_vital_52 rfl 0 rfl ?_
    refine r_getI (pc' := 56) C flX9_116 sh_149 rfl dX9_vital_53 rfl ?_
    refine r_icmp_ge (tgt := 160) (pc' := 59) C dX9_vital_56 rfl rfl (fun c8 => ?_) (fun c8 => ?_)
    · rw [if_pos c8] at h
      refine r_sub [0, 1, 2, 3, 4, 5] rfl ?_
      exact hk160 _ _ _ _ _ _ _ h Z C hE
    · rw [if_neg c8] at h
      refine r_aload_n (pc' := 60) C dX9_vital_59 rfl 0 rfl ?_
      refine r_getR (pc' := 63) C flX9_34 sh_149 rfl dX9_vital_60 rfl ?_
      refine r_bipush (pc' := 65) C dX9_vital_63 rfl kb_24 ?_
      refine r_iload (pc' := 67) C dX9_vital_65 rfl 5 rfl ?_
      refine r_iadd (pc' := 68) C dX9_vital_67 rfl ?_
      obtain ⟨q9, h⟩ := ck h
      refine r_iald (pc' := 69) C sh_153 (vin q9) dX9_vital_68 rfl ?_
      refine r_iload (pc' := 71) C dX9_vital_69 rfl 6 rfl ?_
      obtain ⟨r10, e11, h⟩ := bd h
      refine r_cS1 (pc' := 74) C (X9_has_ok  e11) mlX9_127 ceX9_has csX9_has rfl (Nat.le_of_ble_eq_true rfl) rfl (Nat.le_of_ble_eq_true rfl) dX9_vital_71 rfl (kk := ?_)
      refine r_if_eq (tgt := 154) (pc' := 77) C dX9_vital_74 rfl rfl (fun c12 => ?_) (fun c12 => ?_)
      · rw [if_pos c12] at h
        refine r_iinc (pc' := 157) (v := v6 + 1) (lv2 := [(6, .int (v6 + 1)), (0, .ref 149), (1, .int v1), (2, .int v2), (3, .int v3), (4, .int v4), (5, .int v5)]) C dX9_vital_154 rfl 6 rfl rfl (Nat.le_of_ble_eq_true rfl) rfl ?_
        refine r_goto (tgt := 50) C dX9_vital_157 rfl ?_
        refine r_sub [1, 2, 3, 4, 5, 6, 0] rfl ?_
        exact ih _ _ _ _ _ _ _ _ h Z C hE
      · rw [if_neg c12] at h
        refine r_aload_n (pc' := 78) C dX9_vital_77 rfl 0 rfl ?_
        obtain ⟨r13, e14, h⟩ := bd h
        refine r_cV0 (pc' := 81) C (X9_copies_ok  e14) mlX9_362 ceX9_copies cvX9_copies sh_149 rfl rfl rfl (Nat.le_of_ble_eq_true rfl) rfl (Nat.le_of_ble_eq_true rfl) dX9_vital_78 rfl (kk := ?_)
        refine r_aload_n (pc' := 82) C dX9_vital_81 rfl 0 rfl ?_
        refine r_getR (pc' := 85) C flX9_37 sh_149 rfl dX9_vital_82 rfl ?_
        refine r_iload (pc' := 87) C dX9_vital_85 rfl 5 rfl ?_
        refine r_iload (pc' := 89) C dX9_vital_87 rfl 6 rfl ?_
        obtain ⟨r15, e16, h⟩ := bd h
        refine r_cS0 (pc' := 92) C (X9_toggles_ok mac_154 e16) mlX9_212 ceX9_toggles csX9_toggles rfl (Nat.le_of_ble_eq_true rfl) rfl (Nat.le_of_ble_eq_true rfl) dX9_vital_89 rfl (kk := ?_)
        refine r_aload_n (pc' := 93) C dX9_vital_92 rfl 0 rfl ?_
        refine r_aload_n (pc' := 94) C dX9_vital_93 rfl 0 rfl ?_
        refine r_getR (pc' := 97) C flX9_37 sh_149 rfl dX9_vital_94 rfl ?_
        obtain ⟨r17, e18, h⟩ := bd h
        refine r_cV1 (pc' := 100) C (X9_floating_ok mac_154 e18) mlX9_303 ceX9_floating cvX9_floating sh_149 rfl rfl rfl (Nat.le_of_ble_eq_true rfl) rfl (Nat.le_of_ble_eq_true rfl) dX9_vital_97 rfl (kk := ?_)
        refine r_iload_n (pc' := 101) C dX9_vital_100 rfl 1 rfl ?_
        refine r_iand (pc' := 102) C dX9_vital_101 rfl ?_
        refine r_if_eq (tgt := 109) (pc' := 105) C dX9_vital_102 rfl rfl (fun c19 => ?_) (fun c19 => ?_)
        · rw [if_pos c19] at h
          refine r_iconst (pc' := 110) C dX9_vital_109 rfl kc_0 ?_
          exact X9_vital_j110_ok  ih h Z C hE
        · rw [if_neg c19] at h
          refine r_iconst (pc' := 106) C dX9_vital_105 rfl kc_1 ?_
          refine r_goto (tgt := 110) C dX9_vital_106 rfl ?_
          exact X9_vital_j110_ok  ih h Z C hE
def X9_vital_j160 (N : Nat)  (kr : Int32 → Int32 → Int32 → Int32 → Int32 → Sg → Option (Int32 × Sg)) (v1 : Int32) (v2 : Int32) (v3 : Int32) (v4 : Int32) (v5 : Int32) (σ : Sg) : Option (Int32 × Sg) :=
  kr v1 v2 v3 v4 (v5 + 1) σ
set_option maxRecDepth 100000 in
set_option maxHeartbeats 4000000 in
theorem X9_vital_j160_ok {E : Ev}  {N : Nat} {kr : Int32 → Int32 → Int32 → Int32 → Int32 → Sg → Option (Int32 × Sg)}  (hkr : ∀ (v1 : Int32) (v2 : Int32) (v3 : Int32) (v4 : Int32) (v5 : Int32) (σ : Sg) (r : Int32 × Sg), kr v1 v2 v3 v4 v5 σ = some r → Gp E RX9 cX9_vital (some .int) 8 7 SH0 r.2 (some (.int r.1)) σ 35 [(0, .ref 149), (1, .int v1), (2, .int v2), (3, .int v3), (4, .int v4), (5, .int v5)] []) {v1 : Int32} {v2 : Int32} {v3 : Int32} {v4 : Int32} {v5 : Int32} {σ : Sg} {r : Int32 × Sg} (h : X9_vital_j160 N  kr v1 v2 v3 v4 v5 σ = some r) : Gp E RX9 cX9_vital (some .int) 8 7 SH0 r.2 (some (.int r.1)) σ 160 [(0, .ref 149), (1, .int v1), (2, .int v2), (3, .int v3), (4, .int v4), (5, .int v5)] [] := by
  intro Z C hE
  unfold X9_vital_j160 at h
  refine r_iinc (pc' := 163) (v := v5 + 1) (lv2 := [(5, .int (v5 + 1)), (0, .ref 149), (1, .int v1), (2, .int v2), (3, .int v3), (4, .int v4)]) C dX9_vital_160 rfl 5 rfl rfl (Nat.le_of_ble_eq_true rfl) rfl ?_
  refine r_goto (tgt := 35) C dX9_vital_163 rfl ?_
  refine r_sub [1, 2, 3, 4, 5, 0] rfl ?_
  exact hkr _ _ _ _ _ _ _ h Z C hE
def X9_vital_l35 (N : Nat)  (k166 : Int32 → Int32 → Int32 → Sg → Option (Int32 × Sg))  : Nat → Int32 → Int32 → Int32 → Int32 → Int32 → Sg → Option (Int32 × Sg)
  | 0, _, _, _, _, _, _ => none
  | n + 1, v1, v2, v3, v4, v5, σ =>
    if (gi σ 149 3) ≤ v5 then (k166 v2 v3 v4 σ) else (X9_vital_l50 N (fun v1 v2 v3 v4 v5 σ => X9_vital_j160 N (fun v1 v2 v3 v4 v5 σ => X9_vital_l35 N k166 n v1 v2 v3 v4 v5 σ) v1 v2 v3 v4 v5 σ) N v1 v2 v3 v4 v5 (v5 + 1) σ)
set_option maxRecDepth 100000 in
set_option maxHeartbeats 4000000 in
theorem X9_vital_l35_ok {E : Ev}  {N : Nat} {k166 : Int32 → Int32 → Int32 → Sg → Option (Int32 × Sg)}  (hk166 : ∀ (v2 : Int32) (v3 : Int32) (v4 : Int32) (σ : Sg) (r : Int32 × Sg), k166 v2 v3 v4 σ = some r → Gp E RX9 cX9_vital (some .int) 8 7 SH0 r.2 (some (.int r.1)) σ 166 [(0, .ref 149), (2, .int v2), (3, .int v3), (4, .int v4)] []) : ∀ (n : Nat) (v1 : Int32) (v2 : Int32) (v3 : Int32) (v4 : Int32) (v5 : Int32) (σ : Sg) (r : Int32 × Sg), X9_vital_l35 N k166 n v1 v2 v3 v4 v5 σ = some r → Gp E RX9 cX9_vital (some .int) 8 7 SH0 r.2 (some (.int r.1)) σ 35 [(0, .ref 149), (1, .int v1), (2, .int v2), (3, .int v3), (4, .int v4), (5, .int v5)] [] := by
  intro n
  induction n with
  | zero => intro v1 v2 v3 v4 v5 σ r h; cases h
  | succ n ih =>
    intro v1 v2 v3 v4 v5 σ r h Z C hE
    unfold X9_vital_l35 at h
    refine r_iload (pc' := 37) C dX9_vital_35 rfl 5 rfl ?_
    refine r_aload_n (pc' := 38) C dX9_vital_37 rfl 0 rfl ?_
    refine r_getI (pc' := 41) C flX9_116 sh_149 rfl dX9_vital_38 rfl ?_
    refine r_icmp_ge (tgt := 166) (pc' := 44) C dX9_vital_41 rfl rfl (fun c7 => ?_) (fun c7 => ?_)
    · rw [if_pos c7] at h
      refine r_sub [0, 2, 3, 4] rfl ?_
      exact hk166 _ _ _ _ _ h Z C hE
    · rw [if_neg c7] at h
      refine r_iload (pc' := 46) C dX9_vital_44 rfl 5 rfl ?_
      refine r_iconst (pc' := 47) C dX9_vital_46 rfl kc_1 ?_
      refine r_iadd (pc' := 48) C dX9_vital_47 rfl ?_
      refine r_istore (pc' := 50) (lv2 := [(6, .int (v5 + 1)), (0, .ref 149), (1, .int v1), (2, .int v2), (3, .int v3), (4, .int v4), (5, .int v5)]) C dX9_vital_48 rfl (Nat.le_of_ble_eq_true rfl) rfl ?_
      refine r_sub [1, 2, 3, 4, 5, 6, 0] rfl ?_
      exact X9_vital_l50_ok  (fun _ _ _ _ _ _ _ h Z C hE => by exact X9_vital_j160_ok  ih h Z C hE) N _ _ _ _ _ _ _ _ h Z C hE
def X9_vital_j166 (N : Nat)   (v2 : Int32) (v3 : Int32) (v4 : Int32) (σ : Sg) : Option (Int32 × Sg) :=
  bnS (wi σ 149 1 0) fun σ26 => (X9_stringMany N 153 σ26).bind fun r28 => ((X9_enters N r28.toInt64 σ26).bind fun r30 => (if v2 ≤ 0 then (some (v2, r30)) else ((X9_enters N v3.toInt64 r30).bind fun r33 => ((X9_enters N v4.toInt64 r33).bind fun r35 => (some (v2, r35))))))
set_option maxRecDepth 100000 in
set_option maxHeartbeats 4000000 in
theorem X9_vital_j166_ok {E : Ev}  {N : Nat}    {v2 : Int32} {v3 : Int32} {v4 : Int32} {σ : Sg} {r : Int32 × Sg} (h : X9_vital_j166 N   v2 v3 v4 σ = some r) : Gp E RX9 cX9_vital (some .int) 8 7 SH0 r.2 (some (.int r.1)) σ 166 [(0, .ref 149), (2, .int v2), (3, .int v3), (4, .int v4)] [] := by
  intro Z C hE
  unfold X9_vital_j166 at h
  refine r_aload_n (pc' := 167) C dX9_vital_166 rfl 0 rfl ?_
  refine r_iconst (pc' := 168) C dX9_vital_167 rfl kc_0 ?_
  obtain ⟨σ26, e27, h⟩ := bs h
  refine r_putI (pc' := 171) (σ1 := σ26) C fpX9_15 sh_149 rfl rfl rfl dX9_vital_168 rfl e27 ?_
  refine r_aload_n (pc' := 172) C dX9_vital_171 rfl 0 rfl ?_
  refine r_aload_n (pc' := 173) C dX9_vital_172 rfl 0 rfl ?_
  refine r_aload_n (pc' := 174) C dX9_vital_173 rfl 0 rfl ?_
  refine r_getR (pc' := 177) C flX9_34 sh_149 rfl dX9_vital_174 rfl ?_
  obtain ⟨r28, e29, h⟩ := bd h
  refine r_cV1 (pc' := 180) C (X9_stringMany_ok mac_153 e29) mlX9_319 ceX9_stringMany cvX9_stringMany sh_149 rfl rfl rfl (Nat.le_of_ble_eq_true rfl) rfl (Nat.le_of_ble_eq_true rfl) dX9_vital_177 rfl (kk := ?_)
  refine r_i2l (pc' := 181) C dX9_vital_180 rfl rfl ?_
  obtain ⟨r30, e31, h⟩ := bd h
  refine r_cV0 (pc' := 184) C (X9_enters_ok  e31) mlX9_327 ceX9_enters cvX9_enters sh_149 rfl rfl rfl (Nat.le_of_ble_eq_true rfl) rfl (Nat.le_of_ble_eq_true rfl) dX9_vital_181 rfl (kk := ?_)
  refine r_iload_n (pc' := 185) C dX9_vital_184 rfl 1 rfl ?_
  refine r_if_le (tgt := 201) (pc' := 188) C dX9_vital_185 rfl rfl (fun c32 => ?_) (fun c32 => ?_)
  · rw [if_pos c32] at h
    refine r_iload_n (pc' := 202) C dX9_vital_201 rfl 1 rfl ?_
    have h := Option.some.inj h
    subst h
    exact r_ret C rfl dX9_vital_202 hE
  · rw [if_neg c32] at h
    refine r_aload_n (pc' := 189) C dX9_vital_188 rfl 0 rfl ?_
    refine r_iload_n (pc' := 190) C dX9_vital_189 rfl 2 rfl ?_
    refine r_i2l (pc' := 191) C dX9_vital_190 rfl rfl ?_
    obtain ⟨r33, e34, h⟩ := bd h
    refine r_cV0 (pc' := 194) C (X9_enters_ok  e34) mlX9_327 ceX9_enters cvX9_enters sh_149 rfl rfl rfl (Nat.le_of_ble_eq_true rfl) rfl (Nat.le_of_ble_eq_true rfl) dX9_vital_191 rfl (kk := ?_)
    refine r_aload_n (pc' := 195) C dX9_vital_194 rfl 0 rfl ?_
    refine r_iload (pc' := 197) C dX9_vital_195 rfl 3 rfl ?_
    refine r_i2l (pc' := 198) C dX9_vital_197 rfl rfl ?_
    obtain ⟨r35, e36, h⟩ := bd h
    refine r_cV0 (pc' := 201) C (X9_enters_ok  e36) mlX9_327 ceX9_enters cvX9_enters sh_149 rfl rfl rfl (Nat.le_of_ble_eq_true rfl) rfl (Nat.le_of_ble_eq_true rfl) dX9_vital_198 rfl (kk := ?_)
    refine r_iload_n (pc' := 202) C dX9_vital_201 rfl 1 rfl ?_
    have h := Option.some.inj h
    subst h
    exact r_ret C rfl dX9_vital_202 hE
def X9_vital (N : Nat)   (σ : Sg) : Option (Int32 × Sg) :=
  bnS (wi σ 149 0 0) fun σ1 => (X9_here N 153 σ1).bind fun r3 => ((X9_floating N 153 σ1).bind fun r5 => (X9_vital_l35 N (fun v2 v3 v4 σ => X9_vital_j166 N v2 v3 v4 σ) N (r3 &&& (r5.1 ^^^ (-1))) 0 (-1) (-1) 0 r5.2))
set_option maxRecDepth 100000 in
set_option maxHeartbeats 4000000 in
theorem X9_vital_ok {E : Ev}  {N : Nat}  {σ : Sg} {r : Int32 × Sg} (h : X9_vital N   σ = some r) : Cm E 7 yX9_vital cX9_vital 8 (some .int) [.ref 149] SH0 SH0 σ r.2 (some (.int r.1)) 0 0 := by
  refine Cm.intro (by decide +kernel) (Nat.le_of_ble_eq_true rfl) (fun _ h => by obtain ⟨_, _, _, _, _, _, h⟩ := h; exact h) (fun Z C hE => ?_)
  show Wm E Z 0 0 SH0 σ 0 [(0, .ref 149)] []
  unfold X9_vital at h
  refine r_aload_n (pc' := 1) C dX9_vital_0 rfl 0 rfl ?_
  refine r_iconst (pc' := 2) C dX9_vital_1 rfl kc_0 ?_
  obtain ⟨σ1, e2, h⟩ := bs h
  refine r_putI (pc' := 5) (σ1 := σ1) C fpX9_3 sh_149 rfl rfl rfl dX9_vital_2 rfl e2 ?_
  refine r_aload_n (pc' := 6) C dX9_vital_5 rfl 0 rfl ?_
  refine r_aload_n (pc' := 7) C dX9_vital_6 rfl 0 rfl ?_
  refine r_getR (pc' := 10) C flX9_34 sh_149 rfl dX9_vital_7 rfl ?_
  obtain ⟨r3, e4, h⟩ := bd h
  refine r_cV1 (pc' := 13) C (X9_here_ok mac_153 e4) mlX9_307 ceX9_here cvX9_here sh_149 rfl rfl rfl (Nat.le_of_ble_eq_true rfl) rfl (Nat.le_of_ble_eq_true rfl) dX9_vital_10 rfl (kk := ?_)
  refine r_aload_n (pc' := 14) C dX9_vital_13 rfl 0 rfl ?_
  refine r_aload_n (pc' := 15) C dX9_vital_14 rfl 0 rfl ?_
  refine r_getR (pc' := 18) C flX9_34 sh_149 rfl dX9_vital_15 rfl ?_
  obtain ⟨r5, e6, h⟩ := bd h
  refine r_cV1 (pc' := 21) C (X9_floating_ok mac_153 e6) mlX9_303 ceX9_floating cvX9_floating sh_149 rfl rfl rfl (Nat.le_of_ble_eq_true rfl) rfl (Nat.le_of_ble_eq_true rfl) dX9_vital_18 rfl (kk := ?_)
  refine r_iconst (pc' := 22) C dX9_vital_21 rfl kc_m1 ?_
  refine r_ixor (pc' := 23) C dX9_vital_22 rfl ?_
  refine r_iand (pc' := 24) C dX9_vital_23 rfl ?_
  refine r_istore_n (pc' := 25) (lv2 := [(1, .int (r3 &&& (r5.1 ^^^ (-1)))), (0, .ref 149)]) C dX9_vital_24 rfl rfl (Nat.le_of_ble_eq_true rfl) rfl ?_
  refine r_iconst (pc' := 26) C dX9_vital_25 rfl kc_0 ?_
  refine r_istore_n (pc' := 27) (lv2 := [(2, .int 0), (1, .int (r3 &&& (r5.1 ^^^ (-1)))), (0, .ref 149)]) C dX9_vital_26 rfl rfl (Nat.le_of_ble_eq_true rfl) rfl ?_
  refine r_iconst (pc' := 28) C dX9_vital_27 rfl kc_m1 ?_
  refine r_istore_n (pc' := 29) (lv2 := [(3, .int (-1)), (2, .int 0), (1, .int (r3 &&& (r5.1 ^^^ (-1)))), (0, .ref 149)]) C dX9_vital_28 rfl rfl (Nat.le_of_ble_eq_true rfl) rfl ?_
  refine r_iconst (pc' := 30) C dX9_vital_29 rfl kc_m1 ?_
  refine r_istore (pc' := 32) (lv2 := [(4, .int (-1)), (3, .int (-1)), (2, .int 0), (1, .int (r3 &&& (r5.1 ^^^ (-1)))), (0, .ref 149)]) C dX9_vital_30 rfl (Nat.le_of_ble_eq_true rfl) rfl ?_
  refine r_iconst (pc' := 33) C dX9_vital_32 rfl kc_0 ?_
  refine r_istore (pc' := 35) (lv2 := [(5, .int 0), (4, .int (-1)), (3, .int (-1)), (2, .int 0), (1, .int (r3 &&& (r5.1 ^^^ (-1)))), (0, .ref 149)]) C dX9_vital_33 rfl (Nat.le_of_ble_eq_true rfl) rfl ?_
  refine r_sub [5, 4, 3, 2, 1, 0] rfl ?_
  exact X9_vital_l35_ok  (fun _ _ _ _ _ h Z C hE => by exact X9_vital_j166_ok  h Z C hE) N _ _ _ _ _ _ _ h Z C hE

/-! BorrowedWeightModel.tie()I -/
def X9_tie_j137 (N : Nat)  (kr : Int32 → Int32 → Int32 → Int32 → Int32 → Sg → Option (Int32 × Sg)) (v1 : Int32) (v3 : Int32) (v4 : Int32) (v5 : Int32) (v6 : Int32) (s0 : Int32) (σ : Sg) : Option (Int32 × Sg) :=
  (J9_min_7cf53 N v3 v6 σ).bind fun r25 => (kr v1 s0 r25 v4 (v5 + 1) σ)
set_option maxRecDepth 100000 in
set_option maxHeartbeats 4000000 in
theorem X9_tie_j137_ok {E : Ev}  {N : Nat} {kr : Int32 → Int32 → Int32 → Int32 → Int32 → Sg → Option (Int32 × Sg)}  (hkr : ∀ (v1 : Int32) (v2 : Int32) (v3 : Int32) (v4 : Int32) (v5 : Int32) (σ : Sg) (r : Int32 × Sg), kr v1 v2 v3 v4 v5 σ = some r → Gp E RX9 cX9_tie (some .int) 7 7 SH0 r.2 (some (.int r.1)) σ 31 [(0, .ref 149), (1, .int v1), (2, .int v2), (3, .int v3), (4, .int v4), (5, .int v5)] []) {v1 : Int32} {v3 : Int32} {v4 : Int32} {v5 : Int32} {v6 : Int32} {s0 : Int32} {σ : Sg} {r : Int32 × Sg} (h : X9_tie_j137 N  kr v1 v3 v4 v5 v6 s0 σ = some r) : Gp E RX9 cX9_tie (some .int) 7 7 SH0 r.2 (some (.int r.1)) σ 137 [(0, .ref 149), (1, .int v1), (3, .int v3), (4, .int v4), (5, .int v5), (6, .int v6)] [.int s0] := by
  intro Z C hE
  unfold X9_tie_j137 at h
  refine r_istore_n (pc' := 138) (lv2 := [(2, .int s0), (0, .ref 149), (1, .int v1), (3, .int v3), (4, .int v4), (5, .int v5), (6, .int v6)]) C dX9_tie_137 rfl rfl (Nat.le_of_ble_eq_true rfl) rfl ?_
  refine r_iload_n (pc' := 139) C dX9_tie_138 rfl 3 rfl ?_
  refine r_iload (pc' := 141) C dX9_tie_139 rfl 6 rfl ?_
  obtain ⟨r25, e26, h⟩ := bd h
  refine r_cS1 (pc' := 144) C (J9_min_7cf53_ok  e26) mlX9_150 ceJ9_min_7cf53 csJ9_min_7cf53 rfl (Nat.le_of_ble_eq_true rfl) rfl (Nat.le_of_ble_eq_true rfl) dX9_tie_141 rfl (kk := ?_)
  refine r_istore_n (pc' := 145) (lv2 := [(3, .int r25), (2, .int s0), (0, .ref 149), (1, .int v1), (4, .int v4), (5, .int v5), (6, .int v6)]) C dX9_tie_144 rfl rfl (Nat.le_of_ble_eq_true rfl) rfl ?_
  refine r_iinc (pc' := 148) (v := v5 + 1) (lv2 := [(5, .int (v5 + 1)), (3, .int r25), (2, .int s0), (0, .ref 149), (1, .int v1), (4, .int v4), (6, .int v6)]) C dX9_tie_145 rfl 5 rfl rfl (Nat.le_of_ble_eq_true rfl) rfl ?_
  refine r_goto (tgt := 31) C dX9_tie_148 rfl ?_
  refine r_sub [3, 4, 2, 1, 5, 0] rfl ?_
  exact hkr _ _ _ _ _ _ _ h Z C hE
def X9_tie_j124 (N : Nat)  (kr : Int32 → Int32 → Int32 → Int32 → Int32 → Sg → Option (Int32 × Sg)) (v2 : Int32) (v3 : Int32) (v4 : Int32) (v5 : Int32) (v6 : Int32) (s0 : Int32) (σ : Sg) : Option (Int32 × Sg) :=
  if v3 ≤ v6 then (X9_tie_j137 N kr s0 v3 v4 v5 v6 v2 σ) else (X9_tie_j137 N kr s0 v3 v4 v5 v6 v5 σ)
set_option maxRecDepth 100000 in
set_option maxHeartbeats 4000000 in
theorem X9_tie_j124_ok {E : Ev}  {N : Nat} {kr : Int32 → Int32 → Int32 → Int32 → Int32 → Sg → Option (Int32 × Sg)}  (hkr : ∀ (v1 : Int32) (v2 : Int32) (v3 : Int32) (v4 : Int32) (v5 : Int32) (σ : Sg) (r : Int32 × Sg), kr v1 v2 v3 v4 v5 σ = some r → Gp E RX9 cX9_tie (some .int) 7 7 SH0 r.2 (some (.int r.1)) σ 31 [(0, .ref 149), (1, .int v1), (2, .int v2), (3, .int v3), (4, .int v4), (5, .int v5)] []) {v2 : Int32} {v3 : Int32} {v4 : Int32} {v5 : Int32} {v6 : Int32} {s0 : Int32} {σ : Sg} {r : Int32 × Sg} (h : X9_tie_j124 N  kr v2 v3 v4 v5 v6 s0 σ = some r) : Gp E RX9 cX9_tie (some .int) 7 7 SH0 r.2 (some (.int r.1)) σ 124 [(0, .ref 149), (2, .int v2), (3, .int v3), (4, .int v4), (5, .int v5), (6, .int v6)] [.int s0] := by
  intro Z C hE
  unfold X9_tie_j124 at h
  refine r_istore_n (pc' := 125) (lv2 := [(1, .int s0), (0, .ref 149), (2, .int v2), (3, .int v3), (4, .int v4), (5, .int v5), (6, .int v6)]) C dX9_tie_124 rfl rfl (Nat.le_of_ble_eq_true rfl) rfl ?_
  refine r_iload (pc' := 127) C dX9_tie_125 rfl 6 rfl ?_
  refine r_iload_n (pc' := 128) C dX9_tie_127 rfl 3 rfl ?_
  refine r_icmp_ge (tgt := 136) (pc' := 131) C dX9_tie_128 rfl rfl (fun c24 => ?_) (fun c24 => ?_)
  · rw [if_pos c24] at h
    refine r_iload_n (pc' := 137) C dX9_tie_136 rfl 2 rfl ?_
    refine r_sub [1, 0, 3, 4, 5, 6] rfl ?_
    exact X9_tie_j137_ok  hkr h Z C hE
  · rw [if_neg c24] at h
    refine r_iload (pc' := 133) C dX9_tie_131 rfl 5 rfl ?_
    refine r_goto (tgt := 137) C dX9_tie_133 rfl ?_
    refine r_sub [1, 0, 3, 4, 5, 6] rfl ?_
    exact X9_tie_j137_ok  hkr h Z C hE
def X9_tie_l31 (N : Nat)  (k151 : Int32 → Int32 → Int32 → Int32 → Sg → Option (Int32 × Sg))  : Nat → Int32 → Int32 → Int32 → Int32 → Int32 → Sg → Option (Int32 × Sg)
  | 0, _, _, _, _, _, _ => none
  | n + 1, v1, v2, v3, v4, v5, σ =>
    if (gi σ 149 3) ≤ v5 then (k151 v1 v2 v3 v4 σ) else ((X9_isHere N 153 v4 σ).bind fun r5 => (if r5 = 0 then (X9_tie_l31 N k151 n v1 v2 v3 v4 (v5 + 1) σ) else ((X9_isHere N 153 v5 σ).bind fun r8 => (if r8 = 0 then (X9_tie_l31 N k151 n v1 v2 v3 v4 (v5 + 1) σ) else (if inb (24 + v4) 37 = true then (X9_has N (gi σ 153 (24 + v4).toNatClampNeg) v5 σ).bind fun r12 => (if r12 = 0 then ((X9_copies N σ).bind fun r15 => ((X9_toggles N 154 v4 v5 r15).bind fun r17 => ((X9_floating N 154 r17).bind fun r19 => ((J6_bitCount_0f7a4 N r19.1 r19.2).bind fun r21 => (if v3 ≤ r21 then (X9_tie_j124 N (fun v1 v2 v3 v4 v5 σ => X9_tie_l31 N k151 n v1 v2 v3 v4 v5 σ) v2 v3 v4 v5 r21 v1 r19.2) else (X9_tie_j124 N (fun v1 v2 v3 v4 v5 σ => X9_tie_l31 N k151 n v1 v2 v3 v4 v5 σ) v2 v3 v4 v5 r21 v4 r19.2)))))) else (X9_tie_l31 N k151 n v1 v2 v3 v4 (v5 + 1) σ)) else none)))))
set_option maxRecDepth 100000 in
set_option maxHeartbeats 4000000 in
theorem X9_tie_l31_ok {E : Ev}  {N : Nat} {k151 : Int32 → Int32 → Int32 → Int32 → Sg → Option (Int32 × Sg)}  (hk151 : ∀ (v1 : Int32) (v2 : Int32) (v3 : Int32) (v4 : Int32) (σ : Sg) (r : Int32 × Sg), k151 v1 v2 v3 v4 σ = some r → Gp E RX9 cX9_tie (some .int) 7 7 SH0 r.2 (some (.int r.1)) σ 151 [(0, .ref 149), (1, .int v1), (2, .int v2), (3, .int v3), (4, .int v4)] []) : ∀ (n : Nat) (v1 : Int32) (v2 : Int32) (v3 : Int32) (v4 : Int32) (v5 : Int32) (σ : Sg) (r : Int32 × Sg), X9_tie_l31 N k151 n v1 v2 v3 v4 v5 σ = some r → Gp E RX9 cX9_tie (some .int) 7 7 SH0 r.2 (some (.int r.1)) σ 31 [(0, .ref 149), (1, .int v1), (2, .int v2), (3, .int v3), (4, .int v4), (5, .int v5)] [] := by
  intro n
  induction n with
  | zero => intro v1 v2 v3 v4 v5 σ r h; cases h
  | succ n ih =>
    intro v1 v2 v3 v4 v5 σ r h Z C hE
    unfold X9_tie_l31 at h
    refine r_iload (pc' := 33) C dX9_tie_31 rfl 5 rfl ?_
    refine r_aload_n (pc' := 34) C dX9_tie_33 rfl 0 rfl ?_
    refine r_getI (pc' := 37) C flX9_116 sh_149 rfl dX9_tie_34 rfl ?_
    refine r_icmp_ge (tgt := 151) (pc' := 40) C dX9_tie_37 rfl rfl (fun c4 => ?_) (fun c4 => ?_)
    · rw [if_pos c4] at h
      refine r_sub [0, 1, 2, 3, 4] rfl ?_
      exact hk151 _ _ _ _ _ _ h Z C hE
    · rw [if_neg c4] at h
      refine r_aload_n (pc' := 41) C dX9_tie_40 rfl 0 rfl ?_
      refine r_aload_n (pc' := 42) C dX9_tie_41 rfl 0 rfl ?_
      refine r_getR (pc' := 45) C flX9_34 sh_149 rfl dX9_tie_42 rfl ?_
      refine r_iload (pc' := 47) C dX9_tie_45 rfl 4 rfl ?_
      obtain ⟨r5, e6, h⟩ := bd h
      refine r_cV1 (pc' := 50) C (X9_isHere_ok mac_153 e6) mlX9_202 ceX9_isHere cvX9_isHere sh_149 rfl rfl rfl (Nat.le_of_ble_eq_true rfl) rfl (Nat.le_of_ble_eq_true rfl) dX9_tie_47 rfl (kk := ?_)
      refine r_if_eq (tgt := 145) (pc' := 53) C dX9_tie_50 rfl rfl (fun c7 => ?_) (fun c7 => ?_)
      · rw [if_pos c7] at h
        refine r_iinc (pc' := 148) (v := v5 + 1) (lv2 := [(5, .int (v5 + 1)), (0, .ref 149), (1, .int v1), (2, .int v2), (3, .int v3), (4, .int v4)]) C dX9_tie_145 rfl 5 rfl rfl (Nat.le_of_ble_eq_true rfl) rfl ?_
        refine r_goto (tgt := 31) C dX9_tie_148 rfl ?_
        refine r_sub [1, 2, 3, 4, 5, 0] rfl ?_
        exact ih _ _ _ _ _ _ _ h Z C hE
      · rw [if_neg c7] at h
        refine r_aload_n (pc' := 54) C dX9_tie_53 rfl 0 rfl ?_
        refine r_aload_n (pc' := 55) C dX9_tie_54 rfl 0 rfl ?_
        refine r_getR (pc' := 58) C flX9_34 sh_149 rfl dX9_tie_55 rfl ?_
        refine r_iload (pc' := 60) C dX9_tie_58 rfl 5 rfl ?_
        obtain ⟨r8, e9, h⟩ := bd h
        refine r_cV1 (pc' := 63) C (X9_isHere_ok mac_153 e9) mlX9_202 ceX9_isHere cvX9_isHere sh_149 rfl rfl rfl (Nat.le_of_ble_eq_true rfl) rfl (Nat.le_of_ble_eq_true rfl) dX9_tie_60 rfl (kk := ?_)
        refine r_if_eq (tgt := 145) (pc' := 66) C dX9_tie_63 rfl rfl (fun c10 => ?_) (fun c10 => ?_)
        · rw [if_pos c10] at h
          refine r_iinc (pc' := 148) (v := v5 + 1) (lv2 := [(5, .int (v5 + 1)), (0, .ref 149), (1, .int v1), (2, .int v2), (3, .int v3), (4, .int v4)]) C dX9_tie_145 rfl 5 rfl rfl (Nat.le_of_ble_eq_true rfl) rfl ?_
          refine r_goto (tgt := 31) C dX9_tie_148 rfl ?_
          refine r_sub [1, 2, 3, 4, 5, 0] rfl ?_
          exact ih _ _ _ _ _ _ _ h Z C hE
        · rw [if_neg c10] at h
          refine r_aload_n (pc' := 67) C dX9_tie_66 rfl 0 rfl ?_
          refine r_getR (pc' := 70) C flX9_34 sh_149 rfl dX9_tie_67 rfl ?_
          refine r_bipush (pc' := 72) C dX9_tie_70 rfl kb_24 ?_
          refine r_iload (pc' := 74) C dX9_tie_72 rfl 4 rfl ?_
          refine r_iadd (pc' := 75) C dX9_tie_74 rfl ?_
          obtain ⟨q11, h⟩ := ck h
          refine r_iald (pc' := 76) C sh_153 (vin q11) dX9_tie_75 rfl ?_
          refine r_iload (pc' := 78) C dX9_tie_76 rfl 5 rfl ?_
          obtain ⟨r12, e13, h⟩ := bd h
          refine r_cS1 (pc' := 81) C (X9_has_ok  e13) mlX9_127 ceX9_has csX9_has rfl (Nat.le_of_ble_eq_true rfl) rfl (Nat.le_of_ble_eq_true rfl) dX9_tie_78 rfl (kk := ?_)
          refine r_if_ne (tgt := 145) (pc' := 84) C dX9_tie_81 rfl rfl (fun c14 => ?_) (fun c14 => ?_)
          · rw [if_neg c14] at h
            refine r_iinc (pc' := 148) (v := v5 + 1) (lv2 := [(5, .int (v5 + 1)), (0, .ref 149), (1, .int v1), (2, .int v2), (3, .int v3), (4, .int v4)]) C dX9_tie_145 rfl 5 rfl rfl (Nat.le_of_ble_eq_true rfl) rfl ?_
            refine r_goto (tgt := 31) C dX9_tie_148 rfl ?_
            refine r_sub [1, 2, 3, 4, 5, 0] rfl ?_
            exact ih _ _ _ _ _ _ _ h Z C hE
          · rw [if_pos c14] at h
            refine r_aload_n (pc' := 85) C dX9_tie_84 rfl 0 rfl ?_
            obtain ⟨r15, e16, h⟩ := bd h
            refine r_cV0 (pc' := 88) C (X9_copies_ok  e16) mlX9_362 ceX9_copies cvX9_copies sh_149 rfl rfl rfl (Nat.le_of_ble_eq_true rfl) rfl (Nat.le_of_ble_eq_true rfl) dX9_tie_85 rfl (kk := ?_)
            refine r_aload_n (pc' := 89) C dX9_tie_88 rfl 0 rfl ?_
            refine r_getR (pc' := 92) C flX9_37 sh_149 rfl dX9_tie_89 rfl ?_
            refine r_iload (pc' := 94) C dX9_tie_92 rfl 4 rfl ?_
            refine r_iload (pc' := 96) C dX9_tie_94 rfl 5 rfl ?_
            obtain ⟨r17, e18, h⟩ := bd h
            refine r_cS0 (pc' := 99) C (X9_toggles_ok mac_154 e18) mlX9_212 ceX9_toggles csX9_toggles rfl (Nat.le_of_ble_eq_true rfl) rfl (Nat.le_of_ble_eq_true rfl) dX9_tie_96 rfl (kk := ?_)
            refine r_aload_n (pc' := 100) C dX9_tie_99 rfl 0 rfl ?_
            refine r_aload_n (pc' := 101) C dX9_tie_100 rfl 0 rfl ?_
            refine r_getR (pc' := 104) C flX9_37 sh_149 rfl dX9_tie_101 rfl ?_
            obtain ⟨r19, e20, h⟩ := bd h
            refine r_cV1 (pc' := 107) C (X9_floating_ok mac_154 e20) mlX9_303 ceX9_floating cvX9_floating sh_149 rfl rfl rfl (Nat.le_of_ble_eq_true rfl) rfl (Nat.le_of_ble_eq_true rfl) dX9_tie_104 rfl (kk := ?_)
            obtain ⟨r21, e22, h⟩ := bd h
            refine r_cS1 (pc' := 110) C (J6_bitCount_0f7a4_ok  e22) mlX9_135 ceJ6_bitCount_0f7a4 csJ6_bitCount_0f7a4 rfl (Nat.le_of_ble_eq_true rfl) rfl (Nat.le_of_ble_eq_true rfl) dX9_tie_107 rfl (kk := ?_)
            refine r_istore (pc' := 112) (lv2 := [(6, .int r21), (0, .ref 149), (1, .int v1), (2, .int v2), (3, .int v3), (4, .int v4), (5, .int v5)]) C dX9_tie_110 rfl (Nat.le_of_ble_eq_true rfl) rfl ?_
            refine r_iload (pc' := 114) C dX9_tie_112 rfl 0 rfl ?_
            refine r_iload_n (pc' := 115) C dX9_tie_114 rfl 4 rfl ?_
            refine r_icmp_ge (tgt := 123) (pc' := 118) C dX9_tie_115 rfl rfl (fun c23 => ?_) (fun c23 => ?_)
            · rw [if_pos c23] at h
              refine r_iload_n (pc' := 124) C dX9_tie_123 rfl 2 rfl ?_
              refine r_sub [1, 3, 4, 5, 6, 0] rfl ?_
              exact X9_tie_j124_ok  ih h Z C hE
            · rw [if_neg c23] at h
              refine r_iload (pc' := 120) C dX9_tie_118 rfl 5 rfl ?_
              refine r_goto (tgt := 124) C dX9_tie_120 rfl ?_
              refine r_sub [1, 3, 4, 5, 6, 0] rfl ?_
              exact X9_tie_j124_ok  ih h Z C hE
def X9_tie_j151 (N : Nat)  (kr : Int32 → Int32 → Int32 → Int32 → Sg → Option (Int32 × Sg)) (v1 : Int32) (v2 : Int32) (v3 : Int32) (v4 : Int32) (σ : Sg) : Option (Int32 × Sg) :=
  kr v1 v2 v3 (v4 + 1) σ
set_option maxRecDepth 100000 in
set_option maxHeartbeats 4000000 in
theorem X9_tie_j151_ok {E : Ev}  {N : Nat} {kr : Int32 → Int32 → Int32 → Int32 → Sg → Option (Int32 × Sg)}  (hkr : ∀ (v1 : Int32) (v2 : Int32) (v3 : Int32) (v4 : Int32) (σ : Sg) (r : Int32 × Sg), kr v1 v2 v3 v4 σ = some r → Gp E RX9 cX9_tie (some .int) 7 7 SH0 r.2 (some (.int r.1)) σ 16 [(0, .ref 149), (1, .int v1), (2, .int v2), (3, .int v3), (4, .int v4)] []) {v1 : Int32} {v2 : Int32} {v3 : Int32} {v4 : Int32} {σ : Sg} {r : Int32 × Sg} (h : X9_tie_j151 N  kr v1 v2 v3 v4 σ = some r) : Gp E RX9 cX9_tie (some .int) 7 7 SH0 r.2 (some (.int r.1)) σ 151 [(0, .ref 149), (1, .int v1), (2, .int v2), (3, .int v3), (4, .int v4)] [] := by
  intro Z C hE
  unfold X9_tie_j151 at h
  refine r_iinc (pc' := 154) (v := v4 + 1) (lv2 := [(4, .int (v4 + 1)), (0, .ref 149), (1, .int v1), (2, .int v2), (3, .int v3)]) C dX9_tie_151 rfl 4 rfl rfl (Nat.le_of_ble_eq_true rfl) rfl ?_
  refine r_goto (tgt := 16) C dX9_tie_154 rfl ?_
  refine r_sub [1, 2, 3, 4, 0] rfl ?_
  exact hkr _ _ _ _ _ _ h Z C hE
def X9_tie_l16 (N : Nat)  (k157 : Int32 → Int32 → Int32 → Sg → Option (Int32 × Sg))  : Nat → Int32 → Int32 → Int32 → Int32 → Sg → Option (Int32 × Sg)
  | 0, _, _, _, _, _ => none
  | n + 1, v1, v2, v3, v4, σ =>
    if (gi σ 149 3) ≤ v4 then (k157 v1 v2 v3 σ) else (X9_tie_l31 N (fun v1 v2 v3 v4 σ => X9_tie_j151 N (fun v1 v2 v3 v4 σ => X9_tie_l16 N k157 n v1 v2 v3 v4 σ) v1 v2 v3 v4 σ) N v1 v2 v3 v4 (v4 + 1) σ)
set_option maxRecDepth 100000 in
set_option maxHeartbeats 4000000 in
theorem X9_tie_l16_ok {E : Ev}  {N : Nat} {k157 : Int32 → Int32 → Int32 → Sg → Option (Int32 × Sg)}  (hk157 : ∀ (v1 : Int32) (v2 : Int32) (v3 : Int32) (σ : Sg) (r : Int32 × Sg), k157 v1 v2 v3 σ = some r → Gp E RX9 cX9_tie (some .int) 7 7 SH0 r.2 (some (.int r.1)) σ 157 [(0, .ref 149), (1, .int v1), (2, .int v2), (3, .int v3)] []) : ∀ (n : Nat) (v1 : Int32) (v2 : Int32) (v3 : Int32) (v4 : Int32) (σ : Sg) (r : Int32 × Sg), X9_tie_l16 N k157 n v1 v2 v3 v4 σ = some r → Gp E RX9 cX9_tie (some .int) 7 7 SH0 r.2 (some (.int r.1)) σ 16 [(0, .ref 149), (1, .int v1), (2, .int v2), (3, .int v3), (4, .int v4)] [] := by
  intro n
  induction n with
  | zero => intro v1 v2 v3 v4 σ r h; cases h
  | succ n ih =>
    intro v1 v2 v3 v4 σ r h Z C hE
    unfold X9_tie_l16 at h
    refine r_iload (pc' := 18) C dX9_tie_16 rfl 4 rfl ?_
    refine r_aload_n (pc' := 19) C dX9_tie_18 rfl 0 rfl ?_
    refine r_getI (pc' := 22) C flX9_116 sh_149 rfl dX9_tie_19 rfl ?_
    refine r_icmp_ge (tgt := 157) (pc' := 25) C dX9_tie_22 rfl rfl (fun c3 => ?_) (fun c3 => ?_)
    · rw [if_pos c3] at h
      refine r_sub [0, 1, 2, 3] rfl ?_
      exact hk157 _ _ _ _ _ h Z C hE
    · rw [if_neg c3] at h
      refine r_iload (pc' := 27) C dX9_tie_25 rfl 4 rfl ?_
      refine r_iconst (pc' := 28) C dX9_tie_27 rfl kc_1 ?_
      refine r_iadd (pc' := 29) C dX9_tie_28 rfl ?_
      refine r_istore (pc' := 31) (lv2 := [(5, .int (v4 + 1)), (0, .ref 149), (1, .int v1), (2, .int v2), (3, .int v3), (4, .int v4)]) C dX9_tie_29 rfl (Nat.le_of_ble_eq_true rfl) rfl ?_
      refine r_sub [1, 2, 3, 4, 5, 0] rfl ?_
      exact X9_tie_l31_ok  (fun _ _ _ _ _ _ h Z C hE => by exact X9_tie_j151_ok  ih h Z C hE) N _ _ _ _ _ _ _ h Z C hE
def X9_tie_j157 (N : Nat)   (v1 : Int32) (v2 : Int32) (v3 : Int32) (σ : Sg) : Option (Int32 × Sg) :=
  if 0 ≤ v1 then (bnS (wi σ 149 1 0) fun σ28 => (X9_enters N v1.toInt64 σ28).bind fun r30 => ((X9_enters N v2.toInt64 r30).bind fun r32 => ((X9_floating N 153 r32).bind fun r34 => ((J6_bitCount_0f7a4 N r34.1 r34.2).bind fun r36 => ((X9_enters N r36.toInt64 r34.2).bind fun r38 => (some (v3, r38))))))) else (some ((-2), σ))
set_option maxRecDepth 100000 in
set_option maxHeartbeats 4000000 in
theorem X9_tie_j157_ok {E : Ev}  {N : Nat}    {v1 : Int32} {v2 : Int32} {v3 : Int32} {σ : Sg} {r : Int32 × Sg} (h : X9_tie_j157 N   v1 v2 v3 σ = some r) : Gp E RX9 cX9_tie (some .int) 7 7 SH0 r.2 (some (.int r.1)) σ 157 [(0, .ref 149), (1, .int v1), (2, .int v2), (3, .int v3)] [] := by
  intro Z C hE
  unfold X9_tie_j157 at h
  refine r_iload_n (pc' := 158) C dX9_tie_157 rfl 1 rfl ?_
  refine r_if_ge (tgt := 164) (pc' := 161) C dX9_tie_158 rfl rfl (fun c27 => ?_) (fun c27 => ?_)
  · rw [if_pos c27] at h
    refine r_aload_n (pc' := 165) C dX9_tie_164 rfl 0 rfl ?_
    refine r_iconst (pc' := 166) C dX9_tie_165 rfl kc_0 ?_
    obtain ⟨σ28, e29, h⟩ := bs h
    refine r_putI (pc' := 169) (σ1 := σ28) C fpX9_15 sh_149 rfl rfl rfl dX9_tie_166 rfl e29 ?_
    refine r_aload_n (pc' := 170) C dX9_tie_169 rfl 0 rfl ?_
    refine r_iload_n (pc' := 171) C dX9_tie_170 rfl 1 rfl ?_
    refine r_i2l (pc' := 172) C dX9_tie_171 rfl rfl ?_
    obtain ⟨r30, e31, h⟩ := bd h
    refine r_cV0 (pc' := 175) C (X9_enters_ok  e31) mlX9_327 ceX9_enters cvX9_enters sh_149 rfl rfl rfl (Nat.le_of_ble_eq_true rfl) rfl (Nat.le_of_ble_eq_true rfl) dX9_tie_172 rfl (kk := ?_)
    refine r_aload_n (pc' := 176) C dX9_tie_175 rfl 0 rfl ?_
    refine r_iload_n (pc' := 177) C dX9_tie_176 rfl 2 rfl ?_
    refine r_i2l (pc' := 178) C dX9_tie_177 rfl rfl ?_
    obtain ⟨r32, e33, h⟩ := bd h
    refine r_cV0 (pc' := 181) C (X9_enters_ok  e33) mlX9_327 ceX9_enters cvX9_enters sh_149 rfl rfl rfl (Nat.le_of_ble_eq_true rfl) rfl (Nat.le_of_ble_eq_true rfl) dX9_tie_178 rfl (kk := ?_)
    refine r_aload_n (pc' := 182) C dX9_tie_181 rfl 0 rfl ?_
    refine r_aload_n (pc' := 183) C dX9_tie_182 rfl 0 rfl ?_
    refine r_aload_n (pc' := 184) C dX9_tie_183 rfl 0 rfl ?_
    refine r_getR (pc' := 187) C flX9_34 sh_149 rfl dX9_tie_184 rfl ?_
    obtain ⟨r34, e35, h⟩ := bd h
    refine r_cV1 (pc' := 190) C (X9_floating_ok mac_153 e35) mlX9_303 ceX9_floating cvX9_floating sh_149 rfl rfl rfl (Nat.le_of_ble_eq_true rfl) rfl (Nat.le_of_ble_eq_true rfl) dX9_tie_187 rfl (kk := ?_)
    obtain ⟨r36, e37, h⟩ := bd h
    refine r_cS1 (pc' := 193) C (J6_bitCount_0f7a4_ok  e37) mlX9_135 ceJ6_bitCount_0f7a4 csJ6_bitCount_0f7a4 rfl (Nat.le_of_ble_eq_true rfl) rfl (Nat.le_of_ble_eq_true rfl) dX9_tie_190 rfl (kk := ?_)
    refine r_i2l (pc' := 194) C dX9_tie_193 rfl rfl ?_
    obtain ⟨r38, e39, h⟩ := bd h
    refine r_cV0 (pc' := 197) C (X9_enters_ok  e39) mlX9_327 ceX9_enters cvX9_enters sh_149 rfl rfl rfl (Nat.le_of_ble_eq_true rfl) rfl (Nat.le_of_ble_eq_true rfl) dX9_tie_194 rfl (kk := ?_)
    refine r_iload_n (pc' := 198) C dX9_tie_197 rfl 3 rfl ?_
    have h := Option.some.inj h
    subst h
    exact r_ret C rfl dX9_tie_198 hE
  · rw [if_neg c27] at h
    refine r_bipush (pc' := 163) C dX9_tie_161 rfl kb_m2 ?_
    have h := Option.some.inj h
    subst h
    exact r_ret C rfl dX9_tie_163 hE
def X9_tie (N : Nat)   (σ : Sg) : Option (Int32 × Sg) :=
  bnS (wi σ 149 0 0) fun σ1 => X9_tie_l16 N (fun v1 v2 v3 σ => X9_tie_j157 N v1 v2 v3 σ) N (-1) (-1) 1000000 0 σ1
set_option maxRecDepth 100000 in
set_option maxHeartbeats 4000000 in
theorem X9_tie_ok {E : Ev}  {N : Nat}  {σ : Sg} {r : Int32 × Sg} (h : X9_tie N   σ = some r) : Cm E 7 yX9_tie cX9_tie 7 (some .int) [.ref 149] SH0 SH0 σ r.2 (some (.int r.1)) 0 0 := by
  refine Cm.intro (by decide +kernel) (Nat.le_of_ble_eq_true rfl) (fun _ h => by obtain ⟨_, _, _, _, _, _, h⟩ := h; exact h) (fun Z C hE => ?_)
  show Wm E Z 0 0 SH0 σ 0 [(0, .ref 149)] []
  unfold X9_tie at h
  refine r_aload_n (pc' := 1) C dX9_tie_0 rfl 0 rfl ?_
  refine r_iconst (pc' := 2) C dX9_tie_1 rfl kc_0 ?_
  obtain ⟨σ1, e2, h⟩ := bs h
  refine r_putI (pc' := 5) (σ1 := σ1) C fpX9_3 sh_149 rfl rfl rfl dX9_tie_2 rfl e2 ?_
  refine r_iconst (pc' := 6) C dX9_tie_5 rfl kc_m1 ?_
  refine r_istore_n (pc' := 7) (lv2 := [(1, .int (-1)), (0, .ref 149)]) C dX9_tie_6 rfl rfl (Nat.le_of_ble_eq_true rfl) rfl ?_
  refine r_iconst (pc' := 8) C dX9_tie_7 rfl kc_m1 ?_
  refine r_istore_n (pc' := 9) (lv2 := [(2, .int (-1)), (1, .int (-1)), (0, .ref 149)]) C dX9_tie_8 rfl rfl (Nat.le_of_ble_eq_true rfl) rfl ?_
  refine r_ldcw (pc' := 12) C cnX9_365 dX9_tie_9 rfl ?_
  refine r_istore_n (pc' := 13) (lv2 := [(3, .int 1000000), (2, .int (-1)), (1, .int (-1)), (0, .ref 149)]) C dX9_tie_12 rfl rfl (Nat.le_of_ble_eq_true rfl) rfl ?_
  refine r_iconst (pc' := 14) C dX9_tie_13 rfl kc_0 ?_
  refine r_istore (pc' := 16) (lv2 := [(4, .int 0), (3, .int 1000000), (2, .int (-1)), (1, .int (-1)), (0, .ref 149)]) C dX9_tie_14 rfl (Nat.le_of_ble_eq_true rfl) rfl ?_
  refine r_sub [4, 3, 2, 1, 0] rfl ?_
  exact X9_tie_l16_ok  (fun _ _ _ _ _ h Z C hE => by exact X9_tie_j157_ok  h Z C hE) N _ _ _ _ _ _ h Z C hE
