/-! BorrowedWeightModel.digs(I)I -/
def X9_digs (N : Nat)  (v1 : Int32) (σ : Sg) : Option (Int32 × Sg) :=
  bnS (wi σ 149 0 0) fun σ1 => (X9_in N v1.toInt64 1 99 σ1).bind fun r3 => (if r3 = 0 then (some ((-1), σ1)) else (if inb 33 37 = true then if ((gi σ1 153 (33 : Int32).toNatClampNeg) + v1) ≤ 99 then ((X9_putsBy N σ1).bind fun r8 => (if inb 33 37 = true then if inb 33 37 = true then bnS (wi r8 153 (33 : Int32).toNatClampNeg ((gi r8 153 (33 : Int32).toNatClampNeg) + v1)) fun σ12 => if inb 33 37 = true then (X9_adds N (gi σ12 153 (33 : Int32).toNatClampNeg) σ12).bind fun r15 => (some (r15.1, r15.2)) else none else none else none)) else (some ((-3), σ1)) else none))
set_option maxRecDepth 100000 in
set_option maxHeartbeats 4000000 in
theorem X9_digs_ok {E : Ev}  {N : Nat} {v1 : Int32} {σ : Sg} {r : Int32 × Sg} (h : X9_digs N  v1 σ = some r) : Cm E (1) yX9_digs cX9_digs 2 (some .int) [.ref 149, .int v1] SH0 SH0 σ r.2 (some (.int r.1)) 0 0 := by
  refine Cm.intro (by decide +kernel) (Nat.le_of_ble_eq_true rfl) (fun _ h => by obtain ⟨_, _, _, _, _, _, h⟩ := h; exact h) (fun Z C hE => ?_)
  show Wm E Z 0 0 SH0 σ 0 [(0, .ref 149), (1, .int v1)] []
  unfold X9_digs at h
  refine r_aload_n (pc' := 1) C dX9_digs_0 rfl 0 rfl ?_
  refine r_iconst (pc' := 2) C dX9_digs_1 rfl kc_0 ?_
  obtain ⟨σ1, e2, h⟩ := bs h
  refine r_putI (pc' := 5) (σ1 := σ1) C fpX9_3 sh_149 rfl rfl rfl dX9_digs_2 rfl e2 ?_
  refine r_iload_n (pc' := 6) C dX9_digs_5 rfl 1 rfl ?_
  refine r_i2l (pc' := 7) C dX9_digs_6 rfl rfl ?_
  refine r_lconst (pc' := 8) C dX9_digs_7 rfl kl_1 ?_
  refine r_ldc2 (pc' := 11) C cnX9_346 dX9_digs_8 rfl ?_
  obtain ⟨r3, e4, h⟩ := bd h
  refine r_cS1 (pc' := 14) C (X9_in_ok  e4) mlX9_119 ceX9_in csX9_in rfl (Nat.le_of_ble_eq_true rfl) rfl (Nat.le_of_ble_eq_true rfl) dX9_digs_11 rfl (kk := ?_)
  refine r_if_ne (tgt := 19) (pc' := 17) C dX9_digs_14 rfl rfl (fun c5 => ?_) (fun c5 => ?_)
  · rw [if_neg c5] at h
    refine r_aload_n (pc' := 20) C dX9_digs_19 rfl 0 rfl ?_
    refine r_getR (pc' := 23) C flX9_34 sh_149 rfl dX9_digs_20 rfl ?_
    refine r_bipush (pc' := 25) C dX9_digs_23 rfl kb_33 ?_
    obtain ⟨q6, h⟩ := ck h
    refine r_iald (pc' := 26) C sh_153 (vin q6) dX9_digs_25 rfl ?_
    refine r_iload_n (pc' := 27) C dX9_digs_26 rfl 1 rfl ?_
    refine r_iadd (pc' := 28) C dX9_digs_27 rfl ?_
    refine r_bipush (pc' := 30) C dX9_digs_28 rfl kb_99 ?_
    refine r_icmp_le (tgt := 36) (pc' := 33) C dX9_digs_30 rfl rfl (fun c7 => ?_) (fun c7 => ?_)
    · rw [if_pos c7] at h
      refine r_aload_n (pc' := 37) C dX9_digs_36 rfl 0 rfl ?_
      obtain ⟨r8, e9, h⟩ := bd h
      refine r_cV0 (pc' := 40) C (X9_putsBy_ok  e9) mlX9_209 ceX9_putsBy cvX9_putsBy sh_149 rfl rfl rfl (Nat.le_of_ble_eq_true rfl) rfl (Nat.le_of_ble_eq_true rfl) dX9_digs_37 rfl (kk := ?_)
      refine r_aload_n (pc' := 41) C dX9_digs_40 rfl 0 rfl ?_
      refine r_getR (pc' := 44) C flX9_34 sh_149 rfl dX9_digs_41 rfl ?_
      refine r_bipush (pc' := 46) C dX9_digs_44 rfl kb_33 ?_
      refine r_dup2 (pc' := 47) C dX9_digs_46 rfl rfl rfl ?_
      obtain ⟨q10, h⟩ := ck h
      refine r_iald (pc' := 48) C sh_153 (vin q10) dX9_digs_47 rfl ?_
      refine r_iload_n (pc' := 49) C dX9_digs_48 rfl 1 rfl ?_
      refine r_iadd (pc' := 50) C dX9_digs_49 rfl ?_
      obtain ⟨q11, h⟩ := ck h
      obtain ⟨σ12, e13, h⟩ := bs h
      refine r_iast (pc' := 51) (σ1 := σ12) C sh_153 (vin q11) dX9_digs_50 rfl e13 ?_
      refine r_aload_n (pc' := 52) C dX9_digs_51 rfl 0 rfl ?_
      refine r_aload_n (pc' := 53) C dX9_digs_52 rfl 0 rfl ?_
      refine r_getR (pc' := 56) C flX9_34 sh_149 rfl dX9_digs_53 rfl ?_
      refine r_bipush (pc' := 58) C dX9_digs_56 rfl kb_33 ?_
      obtain ⟨q14, h⟩ := ck h
      refine r_iald (pc' := 59) C sh_153 (vin q14) dX9_digs_58 rfl ?_
      obtain ⟨r15, e16, h⟩ := bd h
      refine r_cV1 (pc' := 62) C (X9_adds_ok  e16) mlX9_216 ceX9_adds cvX9_adds sh_149 rfl rfl rfl (Nat.le_of_ble_eq_true rfl) rfl (Nat.le_of_ble_eq_true rfl) dX9_digs_59 rfl (kk := ?_)
      have h := Option.some.inj h
      subst h
      exact r_ret C rfl dX9_digs_62 hE
    · rw [if_neg c7] at h
      refine r_bipush (pc' := 35) C dX9_digs_33 rfl kb_m3 ?_
      have h := Option.some.inj h
      subst h
      exact r_ret C rfl dX9_digs_35 hE
  · rw [if_pos c5] at h
    refine r_iconst (pc' := 18) C dX9_digs_17 rfl kc_m1 ?_
    have h := Option.some.inj h
    subst h
    exact r_ret C rfl dX9_digs_18 hE

/-! BorrowedWeightModel.readsAct()Z -/
def X9_readsAct_j69 (N : Nat)   (v1 : Int32) (σ : Sg) : Option (Int32 × Sg) :=
  if inb v1 60 = true then if (gi σ 163 v1.toNatClampNeg) < 0 then (some (0, σ)) else (some (1, σ)) else none
set_option maxRecDepth 100000 in
set_option maxHeartbeats 4000000 in
theorem X9_readsAct_j69_ok {E : Ev}  {N : Nat}    {v1 : Int32} {σ : Sg} {r : Int32 × Sg} (h : X9_readsAct_j69 N   v1 σ = some r) : Gp E RX9 cX9_readsAct (some .boolean) 2 (6) SH0 r.2 (some (.int r.1)) σ 69 [(0, .ref 149), (1, .int v1)] [] := by
  intro Z C hE
  unfold X9_readsAct_j69 at h
  refine r_aload_n (pc' := 70) C dX9_readsAct_69 rfl 0 rfl ?_
  refine r_getR (pc' := 73) C flX9_64 sh_149 rfl dX9_readsAct_70 rfl ?_
  refine r_iload_n (pc' := 74) C dX9_readsAct_73 rfl 1 rfl ?_
  obtain ⟨q17, h⟩ := ck h
  refine r_iald (pc' := 75) C sh_163 (vin q17) dX9_readsAct_74 rfl ?_
  refine r_if_lt (tgt := 82) (pc' := 78) C dX9_readsAct_75 rfl rfl (fun c18 => ?_) (fun c18 => ?_)
  · rw [if_pos c18] at h
    refine r_iconst (pc' := 83) C dX9_readsAct_82 rfl kc_0 ?_
    have h := Option.some.inj h
    subst h
    exact r_ret C rfl dX9_readsAct_83 hE
  · rw [if_neg c18] at h
    refine r_iconst (pc' := 79) C dX9_readsAct_78 rfl kc_1 ?_
    refine r_goto (tgt := 83) C dX9_readsAct_79 rfl ?_
    have h := Option.some.inj h
    subst h
    exact r_ret C rfl dX9_readsAct_83 hE
def X9_readsAct_j105 (N : Nat)   (v1 : Int32) (s0 : Int32) (s2 : Int32) (σ : Sg) : Option (Int32 × Sg) :=
  (X9_flag N s0 σ).bind fun r23 => ((X9_digitIn N r23 9 σ).bind fun r25 => (if inb s2 60 = true then bnS (wi r25.2 164 s2.toNatClampNeg r25.1) fun σ28 => if inb v1 60 = true then if (gi σ28 164 v1.toNatClampNeg) < 0 then (some (0, σ28)) else (some (1, σ28)) else none else none))
set_option maxRecDepth 100000 in
set_option maxHeartbeats 4000000 in
theorem X9_readsAct_j105_ok {E : Ev}  {N : Nat}    {v1 : Int32} {s0 : Int32} {s2 : Int32} {σ : Sg} {r : Int32 × Sg} (h : X9_readsAct_j105 N   v1 s0 s2 σ = some r) : Gp E RX9 cX9_readsAct (some .boolean) 2 (6) SH0 r.2 (some (.int r.1)) σ 105 [(0, .ref 149), (1, .int v1)] [.int s0, .ref 149, .int s2, .ref 164] := by
  intro Z C hE
  unfold X9_readsAct_j105 at h
  obtain ⟨r23, e24, h⟩ := bd h
  refine r_cS1 (pc' := 108) C (X9_flag_ok  e24) mlX9_159 ceX9_flag csX9_flag rfl (Nat.le_of_ble_eq_true rfl) rfl (Nat.le_of_ble_eq_true rfl) dX9_readsAct_105 rfl (kk := ?_)
  refine r_bipush (pc' := 110) C dX9_readsAct_108 rfl kb_9 ?_
  obtain ⟨r25, e26, h⟩ := bd h
  refine r_cV1 (pc' := 113) C (X9_digitIn_ok  e26) mlX9_186 ceX9_digitIn cvX9_digitIn sh_149 rfl rfl rfl (Nat.le_of_ble_eq_true rfl) rfl (Nat.le_of_ble_eq_true rfl) dX9_readsAct_110 rfl (kk := ?_)
  obtain ⟨q27, h⟩ := ck h
  obtain ⟨σ28, e29, h⟩ := bs h
  refine r_iast (pc' := 114) (σ1 := σ28) C sh_164 (vin q27) dX9_readsAct_113 rfl e29 ?_
  refine r_aload_n (pc' := 115) C dX9_readsAct_114 rfl 0 rfl ?_
  refine r_getR (pc' := 118) C flX9_67 sh_149 rfl dX9_readsAct_115 rfl ?_
  refine r_iload_n (pc' := 119) C dX9_readsAct_118 rfl 1 rfl ?_
  obtain ⟨q30, h⟩ := ck h
  refine r_iald (pc' := 120) C sh_164 (vin q30) dX9_readsAct_119 rfl ?_
  refine r_if_lt (tgt := 127) (pc' := 123) C dX9_readsAct_120 rfl rfl (fun c31 => ?_) (fun c31 => ?_)
  · rw [if_pos c31] at h
    refine r_iconst (pc' := 128) C dX9_readsAct_127 rfl kc_0 ?_
    have h := Option.some.inj h
    subst h
    exact r_ret C rfl dX9_readsAct_128 hE
  · rw [if_neg c31] at h
    refine r_iconst (pc' := 124) C dX9_readsAct_123 rfl kc_1 ?_
    refine r_goto (tgt := 128) C dX9_readsAct_124 rfl ?_
    have h := Option.some.inj h
    subst h
    exact r_ret C rfl dX9_readsAct_128 hE
def X9_readsAct (N : Nat)   (σ : Sg) : Option (Int32 × Sg) :=
  (X9_takesOf_s4 N σ).bind fun r1 => (if inb (gi σ 149 30) 60 = true then bnS (wi r1.2 162 (gi σ 149 30).toNatClampNeg r1.1) fun σ4 => bnS (wi σ4 149 30 ((gi σ4 149 30) + 1)) fun σ6 => if inb (gi σ 149 30) 60 = true then if 0 ≤ (gi σ6 162 (gi σ 149 30).toNatClampNeg) then ((X9_number N 1 σ6).bind fun r10 => (if inb (gi σ 149 30) 60 = true then bnS (wi r10.2 163 (gi σ 149 30).toNatClampNeg r10.1) fun σ13 => if inb (gi σ 149 30) 60 = true then if (gi σ13 163 (gi σ 149 30).toNatClampNeg) < 0 then (X9_readsAct_j69 N (gi σ 149 30) σ13) else (if inb (gi σ 149 30) 60 = true then if 2 ≤ (gi σ13 162 (gi σ 149 30).toNatClampNeg) then (if inb (gi σ 149 30) 60 = true then if (gi σ13 162 (gi σ 149 30).toNatClampNeg) ≤ 2 then (X9_readsAct_j105 N (gi σ 149 30) 0 (gi σ 149 30) σ13) else (X9_readsAct_j105 N (gi σ 149 30) 1 (gi σ 149 30) σ13) else none) else (X9_readsAct_j69 N (gi σ 149 30) σ13) else none) else none else none)) else (some (0, σ6)) else none else none)
set_option maxRecDepth 100000 in
set_option maxHeartbeats 4000000 in
theorem X9_readsAct_ok {E : Ev}  {N : Nat}  {σ : Sg} {r : Int32 × Sg} (h : X9_readsAct N   σ = some r) : Cm E (6) yX9_readsAct cX9_readsAct 2 (some .boolean) [.ref 149] SH0 SH0 σ r.2 (some (.int r.1)) 0 0 := by
  refine Cm.intro (by decide +kernel) (Nat.le_of_ble_eq_true rfl) (fun _ h => by obtain ⟨_, _, _, _, _, _, h⟩ := h; exact h) (fun Z C hE => ?_)
  show Wm E Z 0 0 SH0 σ 0 [(0, .ref 149)] []
  unfold X9_readsAct at h
  refine r_aload_n (pc' := 1) C dX9_readsAct_0 rfl 0 rfl ?_
  refine r_getI (pc' := 4) C flX9_348 sh_149 rfl dX9_readsAct_1 rfl ?_
  refine r_istore_n (pc' := 5) (lv2 := [(1, .int (gi σ 149 30)), (0, .ref 149)]) C dX9_readsAct_4 rfl rfl (Nat.le_of_ble_eq_true rfl) rfl ?_
  refine r_aload_n (pc' := 6) C dX9_readsAct_5 rfl 1 rfl ?_
  refine r_getR (pc' := 9) C flX9_61 sh_149 rfl dX9_readsAct_6 rfl ?_
  refine r_iload_n (pc' := 10) C dX9_readsAct_9 rfl 0 rfl ?_
  refine r_aload_n (pc' := 11) C dX9_readsAct_10 rfl 1 rfl ?_
  refine r_ldcwS (pc' := 14) (i := 4) C rfl dX9_readsAct_11 rfl ?_
  obtain ⟨r1, e2, h⟩ := bd h
  refine r_cV1 (pc' := 17) C (X9_takesOf_s4_ok  e2) mlX9_234 ceX9_takesOf cvX9_takesOf sh_149 rfl rfl rfl (Nat.le_of_ble_eq_true rfl) rfl (Nat.le_of_ble_eq_true rfl) dX9_readsAct_14 rfl (kk := ?_)
  obtain ⟨q3, h⟩ := ck h
  obtain ⟨σ4, e5, h⟩ := bs h
  refine r_iast (pc' := 18) (σ1 := σ4) C sh_162 (vin q3) dX9_readsAct_17 rfl e5 ?_
  refine r_aload_n (pc' := 19) C dX9_readsAct_18 rfl 1 rfl ?_
  refine r_dup (pc' := 20) C dX9_readsAct_19 rfl rfl ?_
  refine r_getI (pc' := 23) C flX9_348 sh_149 rfl dX9_readsAct_20 rfl ?_
  refine r_iconst (pc' := 24) C dX9_readsAct_23 rfl kc_1 ?_
  refine r_iadd (pc' := 25) C dX9_readsAct_24 rfl ?_
  obtain ⟨σ6, e7, h⟩ := bs h
  refine r_putI (pc' := 28) (σ1 := σ6) C fpX9_348 sh_149 rfl rfl rfl dX9_readsAct_25 rfl e7 ?_
  refine r_aload_n (pc' := 29) C dX9_readsAct_28 rfl 1 rfl ?_
  refine r_getR (pc' := 32) C flX9_61 sh_149 rfl dX9_readsAct_29 rfl ?_
  refine r_iload_n (pc' := 33) C dX9_readsAct_32 rfl 0 rfl ?_
  obtain ⟨q8, h⟩ := ck h
  refine r_iald (pc' := 34) C sh_162 (vin q8) dX9_readsAct_33 rfl ?_
  refine r_if_ge (tgt := 39) (pc' := 37) C dX9_readsAct_34 rfl rfl (fun c9 => ?_) (fun c9 => ?_)
  · rw [if_pos c9] at h
    refine r_aload_n (pc' := 40) C dX9_readsAct_39 rfl 1 rfl ?_
    refine r_getR (pc' := 43) C flX9_64 sh_149 rfl dX9_readsAct_40 rfl ?_
    refine r_iload_n (pc' := 44) C dX9_readsAct_43 rfl 0 rfl ?_
    refine r_aload_n (pc' := 45) C dX9_readsAct_44 rfl 1 rfl ?_
    refine r_iconst (pc' := 46) C dX9_readsAct_45 rfl kc_1 ?_
    obtain ⟨r10, e11, h⟩ := bd h
    refine r_cV1 (pc' := 49) C (X9_number_ok  e11) mlX9_219 ceX9_number cvX9_number sh_149 rfl rfl rfl (Nat.le_of_ble_eq_true rfl) rfl (Nat.le_of_ble_eq_true rfl) dX9_readsAct_46 rfl (kk := ?_)
    obtain ⟨q12, h⟩ := ck h
    obtain ⟨σ13, e14, h⟩ := bs h
    refine r_iast (pc' := 50) (σ1 := σ13) C sh_163 (vin q12) dX9_readsAct_49 rfl e14 ?_
    refine r_aload_n (pc' := 51) C dX9_readsAct_50 rfl 1 rfl ?_
    refine r_getR (pc' := 54) C flX9_64 sh_149 rfl dX9_readsAct_51 rfl ?_
    refine r_iload_n (pc' := 55) C dX9_readsAct_54 rfl 0 rfl ?_
    obtain ⟨q15, h⟩ := ck h
    refine r_iald (pc' := 56) C sh_163 (vin q15) dX9_readsAct_55 rfl ?_
    refine r_if_lt (tgt := 69) (pc' := 59) C dX9_readsAct_56 rfl rfl (fun c16 => ?_) (fun c16 => ?_)
    · rw [if_pos c16] at h
      refine r_sub [1, 0] rfl ?_
      exact X9_readsAct_j69_ok  h Z C hE
    · rw [if_neg c16] at h
      refine r_aload_n (pc' := 60) C dX9_readsAct_59 rfl 1 rfl ?_
      refine r_getR (pc' := 63) C flX9_61 sh_149 rfl dX9_readsAct_60 rfl ?_
      refine r_iload_n (pc' := 64) C dX9_readsAct_63 rfl 0 rfl ?_
      obtain ⟨q19, h⟩ := ck h
      refine r_iald (pc' := 65) C sh_162 (vin q19) dX9_readsAct_64 rfl ?_
      refine r_iconst (pc' := 66) C dX9_readsAct_65 rfl kc_2 ?_
      refine r_icmp_ge (tgt := 84) (pc' := 69) C dX9_readsAct_66 rfl rfl (fun c20 => ?_) (fun c20 => ?_)
      · rw [if_pos c20] at h
        refine r_aload_n (pc' := 85) C dX9_readsAct_84 rfl 1 rfl ?_
        refine r_getR (pc' := 88) C flX9_67 sh_149 rfl dX9_readsAct_85 rfl ?_
        refine r_iload_n (pc' := 89) C dX9_readsAct_88 rfl 0 rfl ?_
        refine r_aload_n (pc' := 90) C dX9_readsAct_89 rfl 1 rfl ?_
        refine r_aload_n (pc' := 91) C dX9_readsAct_90 rfl 1 rfl ?_
        refine r_getR (pc' := 94) C flX9_61 sh_149 rfl dX9_readsAct_91 rfl ?_
        refine r_iload_n (pc' := 95) C dX9_readsAct_94 rfl 0 rfl ?_
        obtain ⟨q21, h⟩ := ck h
        refine r_iald (pc' := 96) C sh_162 (vin q21) dX9_readsAct_95 rfl ?_
        refine r_iconst (pc' := 97) C dX9_readsAct_96 rfl kc_2 ?_
        refine r_icmp_le (tgt := 104) (pc' := 100) C dX9_readsAct_97 rfl rfl (fun c22 => ?_) (fun c22 => ?_)
        · rw [if_pos c22] at h
          refine r_iconst (pc' := 105) C dX9_readsAct_104 rfl kc_0 ?_
          refine r_sub [1, 0] rfl ?_
          exact X9_readsAct_j105_ok  h Z C hE
        · rw [if_neg c22] at h
          refine r_iconst (pc' := 101) C dX9_readsAct_100 rfl kc_1 ?_
          refine r_goto (tgt := 105) C dX9_readsAct_101 rfl ?_
          refine r_sub [1, 0] rfl ?_
          exact X9_readsAct_j105_ok  h Z C hE
      · rw [if_neg c20] at h
        refine r_sub [1, 0] rfl ?_
        exact X9_readsAct_j69_ok  h Z C hE
  · rw [if_neg c9] at h
    refine r_iconst (pc' := 38) C dX9_readsAct_37 rfl kc_0 ?_
    have h := Option.some.inj h
    subst h
    exact r_ret C rfl dX9_readsAct_38 hE

/-! BorrowedWeightModel.does(I)Z -/
def X9_does_l46 (N : Nat)    : Nat → Int32 → Int32 → Sg → Option (Int32 × Sg)
  | 0, _, _, _ => none
  | n + 1, v2, v3, σ =>
    if v2 ≤ v3 then (some (1, σ)) else ((X9_hourGoes N 153 σ).bind fun r5 => (X9_does_l46 N n v2 (v3 + 1) r5))
set_option maxRecDepth 100000 in
set_option maxHeartbeats 4000000 in
theorem X9_does_l46_ok {E : Ev}  {N : Nat}    : ∀ (n : Nat) (v2 : Int32) (v3 : Int32) (σ : Sg) (r : Int32 × Sg), X9_does_l46 N n v2 v3 σ = some r → Gp E RX9 cX9_does (some .boolean) 4 (8) SH0 r.2 (some (.int r.1)) σ 46 [(0, .ref 149), (2, .int v2), (3, .int v3)] [] := by
  intro n
  induction n with
  | zero => intro v2 v3 σ r h; cases h
  | succ n ih =>
    intro v2 v3 σ r h Z C hE
    unfold X9_does_l46 at h
    refine r_iload_n (pc' := 47) C dX9_does_46 rfl 2 rfl ?_
    refine r_iload_n (pc' := 48) C dX9_does_47 rfl 1 rfl ?_
    refine r_icmp_ge (tgt := 65) (pc' := 51) C dX9_does_48 rfl rfl (fun c4 => ?_) (fun c4 => ?_)
    · rw [if_pos c4] at h
      refine r_iconst (pc' := 66) C dX9_does_65 rfl kc_1 ?_
      have h := Option.some.inj h
      subst h
      exact r_ret C rfl dX9_does_66 hE
    · rw [if_neg c4] at h
      refine r_aload_n (pc' := 52) C dX9_does_51 rfl 0 rfl ?_
      refine r_aload_n (pc' := 53) C dX9_does_52 rfl 0 rfl ?_
      refine r_getR (pc' := 56) C flX9_34 sh_149 rfl dX9_does_53 rfl ?_
      obtain ⟨r5, e6, h⟩ := bd h
      refine r_cV0 (pc' := 59) C (X9_hourGoes_ok mac_153 e6) mlX9_313 ceX9_hourGoes cvX9_hourGoes sh_149 rfl rfl rfl (Nat.le_of_ble_eq_true rfl) rfl (Nat.le_of_ble_eq_true rfl) dX9_does_56 rfl (kk := ?_)
      refine r_iinc (pc' := 62) (v := v3 + 1) (lv2 := [(3, .int (v3 + 1)), (0, .ref 149), (2, .int v2)]) C dX9_does_59 rfl 2 rfl rfl (Nat.le_of_ble_eq_true rfl) rfl ?_
      refine r_goto (tgt := 46) C dX9_does_62 rfl ?_
      refine r_sub [1, 2, 0] rfl ?_
      exact ih _ _ _ _ h Z C hE
def X9_does (N : Nat)  (v1 : Int32) (σ : Sg) : Option (Int32 × Sg) :=
  if inb v1 60 = true then if inb v1 60 = true then if (gi σ 162 v1.toNatClampNeg) = 0 then (X9_does_l46 N N (gi σ 163 v1.toNatClampNeg) 0 σ) else if (gi σ 162 v1.toNatClampNeg) = 1 then ((X9_paysAll N (gi σ 163 v1.toNatClampNeg) σ).bind fun r8 => (if r8.1 < 0 then (some (0, r8.2)) else (some (1, r8.2)))) else if (gi σ 162 v1.toNatClampNeg) = 2 then (if inb v1 60 = true then (X9_tiesTwo N 153 (gi σ 163 v1.toNatClampNeg) (gi σ 164 v1.toNatClampNeg) σ).bind fun r13 => (if r13.1 < 0 then (some (0, r13.2)) else (some (1, r13.2))) else none) else if (gi σ 162 v1.toNatClampNeg) = 3 then (if inb v1 60 = true then (X9_lendsTo N 153 (gi σ 163 v1.toNatClampNeg) (gi σ 164 v1.toNatClampNeg) σ).bind fun r18 => (if r18.1 < 0 then (some (0, r18.2)) else (some (1, r18.2))) else none) else (if inb v1 60 = true then (X9_givesBack N (gi σ 163 v1.toNatClampNeg) (gi σ 164 v1.toNatClampNeg) σ).bind fun r22 => (if r22.1 < 0 then (some (0, r22.2)) else (some (1, r22.2))) else none) else none else none
set_option maxRecDepth 100000 in
set_option maxHeartbeats 4000000 in
theorem X9_does_ok {E : Ev}  {N : Nat} {v1 : Int32} {σ : Sg} {r : Int32 × Sg} (h : X9_does N  v1 σ = some r) : Cm E (8) yX9_does cX9_does 4 (some .boolean) [.ref 149, .int v1] SH0 SH0 σ r.2 (some (.int r.1)) 0 0 := by
  refine Cm.intro (by decide +kernel) (Nat.le_of_ble_eq_true rfl) (fun _ h => by obtain ⟨_, _, _, _, _, _, h⟩ := h; exact h) (fun Z C hE => ?_)
  show Wm E Z 0 0 SH0 σ 0 [(0, .ref 149), (1, .int v1)] []
  unfold X9_does at h
  refine r_aload_n (pc' := 1) C dX9_does_0 rfl 0 rfl ?_
  refine r_getR (pc' := 4) C flX9_64 sh_149 rfl dX9_does_1 rfl ?_
  refine r_iload_n (pc' := 5) C dX9_does_4 rfl 1 rfl ?_
  obtain ⟨q1, h⟩ := ck h
  refine r_iald (pc' := 6) C sh_163 (vin q1) dX9_does_5 rfl ?_
  refine r_istore_n (pc' := 7) (lv2 := [(2, .int (gi σ 163 v1.toNatClampNeg)), (0, .ref 149), (1, .int v1)]) C dX9_does_6 rfl rfl (Nat.le_of_ble_eq_true rfl) rfl ?_
  refine r_aload_n (pc' := 8) C dX9_does_7 rfl 1 rfl ?_
  refine r_getR (pc' := 11) C flX9_61 sh_149 rfl dX9_does_8 rfl ?_
  refine r_iload_n (pc' := 12) C dX9_does_11 rfl 2 rfl ?_
  obtain ⟨q2, h⟩ := ck h
  refine r_iald (pc' := 13) C sh_162 (vin q2) dX9_does_12 rfl ?_
  by_cases c3 : (gi σ 162 v1.toNatClampNeg) = 0
  · rw [if_pos c3] at h
    refine r_tabIn (tgt := 44) C dX9_does_13 (by rw [c3]; decide) (by rw [c3]; decide) (by rw [c3]; rfl) rfl ?_
    refine r_iconst (pc' := 45) C dX9_does_44 rfl kc_0 ?_
    refine r_istore_n (pc' := 46) (lv2 := [(3, .int 0), (2, .int (gi σ 163 v1.toNatClampNeg)), (0, .ref 149), (1, .int v1)]) C dX9_does_45 rfl rfl (Nat.le_of_ble_eq_true rfl) rfl ?_
    refine r_sub [2, 1, 0] rfl ?_
    exact X9_does_l46_ok  N _ _ _ _ h Z C hE
  rw [if_neg c3] at h
  by_cases c7 : (gi σ 162 v1.toNatClampNeg) = 1
  · rw [if_pos c7] at h
    refine r_tabIn (tgt := 67) C dX9_does_13 (by rw [c7]; decide) (by rw [c7]; decide) (by rw [c7]; rfl) rfl ?_
    refine r_aload_n (pc' := 68) C dX9_does_67 rfl 1 rfl ?_
    refine r_iload_n (pc' := 69) C dX9_does_68 rfl 0 rfl ?_
    obtain ⟨r8, e9, h⟩ := bd h
    refine r_cV1 (pc' := 72) C (X9_paysAll_ok  e9) mlX9_343 ceX9_paysAll cvX9_paysAll sh_149 rfl rfl rfl (Nat.le_of_ble_eq_true rfl) rfl (Nat.le_of_ble_eq_true rfl) dX9_does_69 rfl (kk := ?_)
    refine r_if_lt (tgt := 79) (pc' := 75) C dX9_does_72 rfl rfl (fun c10 => ?_) (fun c10 => ?_)
    · rw [if_pos c10] at h
      refine r_iconst (pc' := 80) C dX9_does_79 rfl kc_0 ?_
      have h := Option.some.inj h
      subst h
      exact r_ret C rfl dX9_does_80 hE
    · rw [if_neg c10] at h
      refine r_iconst (pc' := 76) C dX9_does_75 rfl kc_1 ?_
      refine r_goto (tgt := 80) C dX9_does_76 rfl ?_
      have h := Option.some.inj h
      subst h
      exact r_ret C rfl dX9_does_80 hE
  rw [if_neg c7] at h
  by_cases c11 : (gi σ 162 v1.toNatClampNeg) = 2
  · rw [if_pos c11] at h
    refine r_tabIn (tgt := 81) C dX9_does_13 (by rw [c11]; decide) (by rw [c11]; decide) (by rw [c11]; rfl) rfl ?_
    refine r_aload_n (pc' := 82) C dX9_does_81 rfl 1 rfl ?_
    refine r_aload_n (pc' := 83) C dX9_does_82 rfl 1 rfl ?_
    refine r_getR (pc' := 86) C flX9_34 sh_149 rfl dX9_does_83 rfl ?_
    refine r_iload_n (pc' := 87) C dX9_does_86 rfl 0 rfl ?_
    refine r_aload_n (pc' := 88) C dX9_does_87 rfl 1 rfl ?_
    refine r_getR (pc' := 91) C flX9_67 sh_149 rfl dX9_does_88 rfl ?_
    refine r_iload_n (pc' := 92) C dX9_does_91 rfl 2 rfl ?_
    obtain ⟨q12, h⟩ := ck h
    refine r_iald (pc' := 93) C sh_164 (vin q12) dX9_does_92 rfl ?_
    obtain ⟨r13, e14, h⟩ := bd h
    refine r_cV1 (pc' := 96) C (X9_tiesTwo_ok mac_153 e14) mlX9_340 ceX9_tiesTwo cvX9_tiesTwo sh_149 rfl rfl rfl (Nat.le_of_ble_eq_true rfl) rfl (Nat.le_of_ble_eq_true rfl) dX9_does_93 rfl (kk := ?_)
    refine r_if_lt (tgt := 103) (pc' := 99) C dX9_does_96 rfl rfl (fun c15 => ?_) (fun c15 => ?_)
    · rw [if_pos c15] at h
      refine r_iconst (pc' := 104) C dX9_does_103 rfl kc_0 ?_
      have h := Option.some.inj h
      subst h
      exact r_ret C rfl dX9_does_104 hE
    · rw [if_neg c15] at h
      refine r_iconst (pc' := 100) C dX9_does_99 rfl kc_1 ?_
      refine r_goto (tgt := 104) C dX9_does_100 rfl ?_
      have h := Option.some.inj h
      subst h
      exact r_ret C rfl dX9_does_104 hE
  rw [if_neg c11] at h
  by_cases c16 : (gi σ 162 v1.toNatClampNeg) = 3
  · rw [if_pos c16] at h
    refine r_tabIn (tgt := 105) C dX9_does_13 (by rw [c16]; decide) (by rw [c16]; decide) (by rw [c16]; rfl) rfl ?_
    refine r_aload_n (pc' := 106) C dX9_does_105 rfl 1 rfl ?_
    refine r_aload_n (pc' := 107) C dX9_does_106 rfl 1 rfl ?_
    refine r_getR (pc' := 110) C flX9_34 sh_149 rfl dX9_does_107 rfl ?_
    refine r_iload_n (pc' := 111) C dX9_does_110 rfl 0 rfl ?_
    refine r_aload_n (pc' := 112) C dX9_does_111 rfl 1 rfl ?_
    refine r_getR (pc' := 115) C flX9_67 sh_149 rfl dX9_does_112 rfl ?_
    refine r_iload_n (pc' := 116) C dX9_does_115 rfl 2 rfl ?_
    obtain ⟨q17, h⟩ := ck h
    refine r_iald (pc' := 117) C sh_164 (vin q17) dX9_does_116 rfl ?_
    obtain ⟨r18, e19, h⟩ := bd h
    refine r_cV1 (pc' := 120) C (X9_lendsTo_ok mac_153 e19) mlX9_331 ceX9_lendsTo cvX9_lendsTo sh_149 rfl rfl rfl (Nat.le_of_ble_eq_true rfl) rfl (Nat.le_of_ble_eq_true rfl) dX9_does_117 rfl (kk := ?_)
    refine r_if_lt (tgt := 127) (pc' := 123) C dX9_does_120 rfl rfl (fun c20 => ?_) (fun c20 => ?_)
    · rw [if_pos c20] at h
      refine r_iconst (pc' := 128) C dX9_does_127 rfl kc_0 ?_
      have h := Option.some.inj h
      subst h
      exact r_ret C rfl dX9_does_128 hE
    · rw [if_neg c20] at h
      refine r_iconst (pc' := 124) C dX9_does_123 rfl kc_1 ?_
      refine r_goto (tgt := 128) C dX9_does_124 rfl ?_
      have h := Option.some.inj h
      subst h
      exact r_ret C rfl dX9_does_128 hE
  rw [if_neg c16] at h
  have o25 : (gi σ 162 v1.toNatClampNeg).toInt < 0 ∨ 3 < (gi σ 162 v1.toNatClampNeg).toInt := by
    refine tab_out (fun k h1 h2 => ?_) (by decide) (by decide)
    have hk : k = 0 ∨ k = 1 ∨ k = 2 ∨ k = 3 := by omega
    rcases hk with rfl | rfl | rfl | rfl
    · exact c3
    · exact c7
    · exact c11
    · exact c16
  refine r_tabOut (tgt := 129) C dX9_does_13 o25 rfl ?_
  refine r_aload_n (pc' := 130) C dX9_does_129 rfl 1 rfl ?_
  refine r_iload_n (pc' := 131) C dX9_does_130 rfl 0 rfl ?_
  refine r_aload_n (pc' := 132) C dX9_does_131 rfl 1 rfl ?_
  refine r_getR (pc' := 135) C flX9_67 sh_149 rfl dX9_does_132 rfl ?_
  refine r_iload_n (pc' := 136) C dX9_does_135 rfl 2 rfl ?_
  obtain ⟨q21, h⟩ := ck h
  refine r_iald (pc' := 137) C sh_164 (vin q21) dX9_does_136 rfl ?_
  obtain ⟨r22, e23, h⟩ := bd h
  refine r_cV1 (pc' := 140) C (X9_givesBack_ok  e23) mlX9_337 ceX9_givesBack cvX9_givesBack sh_149 rfl rfl rfl (Nat.le_of_ble_eq_true rfl) rfl (Nat.le_of_ble_eq_true rfl) dX9_does_137 rfl (kk := ?_)
  refine r_if_lt (tgt := 147) (pc' := 143) C dX9_does_140 rfl rfl (fun c24 => ?_) (fun c24 => ?_)
  · rw [if_pos c24] at h
    refine r_iconst (pc' := 148) C dX9_does_147 rfl kc_0 ?_
    have h := Option.some.inj h
    subst h
    exact r_ret C rfl dX9_does_148 hE
  · rw [if_neg c24] at h
    refine r_iconst (pc' := 144) C dX9_does_143 rfl kc_1 ?_
    refine r_goto (tgt := 148) C dX9_does_144 rfl ?_
    have h := Option.some.inj h
    subst h
    exact r_ret C rfl dX9_does_148 hE

/-! BorrowedWeightModel.night()I -/
def X9_night_l19 (N : Nat)  (k42 : Int32 → Int32 → Sg → Option (Int32 × Sg))  : Nat → Int32 → Int32 → Sg → Option (Int32 × Sg)
  | 0, _, _, _ => none
  | n + 1, v1, v2, σ =>
    if v2 = 0 then (k42 v1 v2 σ) else (if (gi σ 149 13) ≤ (gi σ 149 12) then (k42 v1 v2 σ) else ((X9_readsAct N σ).bind fun r9 => (X9_night_l19 N k42 n v1 r9.1 r9.2)))
set_option maxRecDepth 100000 in
set_option maxHeartbeats 4000000 in
theorem X9_night_l19_ok {E : Ev}  {N : Nat} {k42 : Int32 → Int32 → Sg → Option (Int32 × Sg)}  (hk42 : ∀ (v1 : Int32) (v2 : Int32) (σ : Sg) (r : Int32 × Sg), k42 v1 v2 σ = some r → Gp E RX9 cX9_night (some .int) 5 (9) SH0 r.2 (some (.int r.1)) σ 42 [(0, .ref 149), (1, .int v1), (2, .int v2)] []) : ∀ (n : Nat) (v1 : Int32) (v2 : Int32) (σ : Sg) (r : Int32 × Sg), X9_night_l19 N k42 n v1 v2 σ = some r → Gp E RX9 cX9_night (some .int) 5 (9) SH0 r.2 (some (.int r.1)) σ 19 [(0, .ref 149), (1, .int v1), (2, .int v2)] [] := by
  intro n
  induction n with
  | zero => intro v1 v2 σ r h; cases h
  | succ n ih =>
    intro v1 v2 σ r h Z C hE
    unfold X9_night_l19 at h
    refine r_iload_n (pc' := 20) C dX9_night_19 rfl 2 rfl ?_
    refine r_if_eq (tgt := 42) (pc' := 23) C dX9_night_20 rfl rfl (fun c7 => ?_) (fun c7 => ?_)
    · rw [if_pos c7] at h
      exact hk42 _ _ _ _ h Z C hE
    · rw [if_neg c7] at h
      refine r_aload_n (pc' := 24) C dX9_night_23 rfl 0 rfl ?_
      refine r_getI (pc' := 27) C flX9_144 sh_149 rfl dX9_night_24 rfl ?_
      refine r_aload_n (pc' := 28) C dX9_night_27 rfl 0 rfl ?_
      refine r_getI (pc' := 31) C flX9_156 sh_149 rfl dX9_night_28 rfl ?_
      refine r_icmp_ge (tgt := 42) (pc' := 34) C dX9_night_31 rfl rfl (fun c8 => ?_) (fun c8 => ?_)
      · rw [if_pos c8] at h
        exact hk42 _ _ _ _ h Z C hE
      · rw [if_neg c8] at h
        refine r_aload_n (pc' := 35) C dX9_night_34 rfl 0 rfl ?_
        obtain ⟨r9, e10, h⟩ := bd h
        refine r_cV1 (pc' := 38) C (X9_readsAct_ok  e10) mlX9_353 ceX9_readsAct cvX9_readsAct sh_149 rfl rfl rfl (Nat.le_of_ble_eq_true rfl) rfl (Nat.le_of_ble_eq_true rfl) dX9_night_35 rfl (kk := ?_)
        refine r_istore_n (pc' := 39) (lv2 := [(2, .int r9.1), (0, .ref 149), (1, .int v1)]) C dX9_night_38 rfl rfl (Nat.le_of_ble_eq_true rfl) rfl ?_
        refine r_goto (tgt := 19) C dX9_night_39 rfl ?_
        refine r_sub [1, 2, 0] rfl ?_
        exact ih _ _ _ _ h Z C hE
def X9_night_l64 (N : Nat)  (k88 : Int32 → Sg → Option (Int32 × Sg))  : Nat → Int32 → Sg → Option (Int32 × Sg)
  | 0, _, _ => none
  | n + 1, v4, σ =>
    if (gi σ 149 30) ≤ v4 then (k88 v4 σ) else ((X9_does N v4 σ).bind fun r17 => (if r17.1 = 0 then (k88 v4 r17.2) else (X9_night_l64 N k88 n (v4 + 1) r17.2)))
set_option maxRecDepth 100000 in
set_option maxHeartbeats 4000000 in
theorem X9_night_l64_ok {E : Ev}  {N : Nat} {k88 : Int32 → Sg → Option (Int32 × Sg)}  (hk88 : ∀ (v4 : Int32) (σ : Sg) (r : Int32 × Sg), k88 v4 σ = some r → Gp E RX9 cX9_night (some .int) 5 (9) SH0 r.2 (some (.int r.1)) σ 88 [(0, .ref 149), (4, .int v4)] []) : ∀ (n : Nat) (v4 : Int32) (σ : Sg) (r : Int32 × Sg), X9_night_l64 N k88 n v4 σ = some r → Gp E RX9 cX9_night (some .int) 5 (9) SH0 r.2 (some (.int r.1)) σ 64 [(0, .ref 149), (4, .int v4)] [] := by
  intro n
  induction n with
  | zero => intro v4 σ r h; cases h
  | succ n ih =>
    intro v4 σ r h Z C hE
    unfold X9_night_l64 at h
    refine r_iload (pc' := 66) C dX9_night_64 rfl 1 rfl ?_
    refine r_aload_n (pc' := 67) C dX9_night_66 rfl 0 rfl ?_
    refine r_getI (pc' := 70) C flX9_348 sh_149 rfl dX9_night_67 rfl ?_
    refine r_icmp_ge (tgt := 88) (pc' := 73) C dX9_night_70 rfl rfl (fun c16 => ?_) (fun c16 => ?_)
    · rw [if_pos c16] at h
      exact hk88 _ _ _ h Z C hE
    · rw [if_neg c16] at h
      refine r_aload_n (pc' := 74) C dX9_night_73 rfl 0 rfl ?_
      refine r_iload (pc' := 76) C dX9_night_74 rfl 1 rfl ?_
      obtain ⟨r17, e18, h⟩ := bd h
      refine r_cV1 (pc' := 79) C (X9_does_ok  e18) mlX9_356 ceX9_does cvX9_does sh_149 rfl rfl rfl (Nat.le_of_ble_eq_true rfl) rfl (Nat.le_of_ble_eq_true rfl) dX9_night_76 rfl (kk := ?_)
      refine r_if_eq (tgt := 88) (pc' := 82) C dX9_night_79 rfl rfl (fun c19 => ?_) (fun c19 => ?_)
      · rw [if_pos c19] at h
        exact hk88 _ _ _ h Z C hE
      · rw [if_neg c19] at h
        refine r_iinc (pc' := 85) (v := v4 + 1) (lv2 := [(4, .int (v4 + 1)), (0, .ref 149)]) C dX9_night_82 rfl 1 rfl rfl (Nat.le_of_ble_eq_true rfl) rfl ?_
        refine r_goto (tgt := 64) C dX9_night_85 rfl ?_
        refine r_sub [1, 0] rfl ?_
        exact ih _ _ _ h Z C hE
def X9_night_j108 (N : Nat)   (v4 : Int32) (s0 : Int32) (σ : Sg) : Option (Int32 × Sg) :=
  (X9_flag N s0 σ).bind fun r23 => ((X9_enters N r23.toInt64 σ).bind fun r25 => (if inb 33 37 = true then (X9_enters N ((gi r25 153 (33 : Int32).toNatClampNeg).toInt64) r25).bind fun r28 => (if v4 ≤ 0 then (some (0, r28)) else ((X9_adds N v4 r28).bind fun r31 => (some (r31.1, r31.2)))) else none))
set_option maxRecDepth 100000 in
set_option maxHeartbeats 4000000 in
theorem X9_night_j108_ok {E : Ev}  {N : Nat}    {v4 : Int32} {s0 : Int32} {σ : Sg} {r : Int32 × Sg} (h : X9_night_j108 N   v4 s0 σ = some r) : Gp E RX9 cX9_night (some .int) 5 (9) SH0 r.2 (some (.int r.1)) σ 108 [(0, .ref 149), (4, .int v4)] [.int s0, .ref 149] := by
  intro Z C hE
  unfold X9_night_j108 at h
  obtain ⟨r23, e24, h⟩ := bd h
  refine r_cS1 (pc' := 111) C (X9_flag_ok  e24) mlX9_159 ceX9_flag csX9_flag rfl (Nat.le_of_ble_eq_true rfl) rfl (Nat.le_of_ble_eq_true rfl) dX9_night_108 rfl (kk := ?_)
  refine r_i2l (pc' := 112) C dX9_night_111 rfl rfl ?_
  obtain ⟨r25, e26, h⟩ := bd h
  refine r_cV0 (pc' := 115) C (X9_enters_ok  e26) mlX9_327 ceX9_enters cvX9_enters sh_149 rfl rfl rfl (Nat.le_of_ble_eq_true rfl) rfl (Nat.le_of_ble_eq_true rfl) dX9_night_112 rfl (kk := ?_)
  refine r_aload_n (pc' := 116) C dX9_night_115 rfl 0 rfl ?_
  refine r_aload_n (pc' := 117) C dX9_night_116 rfl 0 rfl ?_
  refine r_getR (pc' := 120) C flX9_34 sh_149 rfl dX9_night_117 rfl ?_
  refine r_bipush (pc' := 122) C dX9_night_120 rfl kb_33 ?_
  obtain ⟨q27, h⟩ := ck h
  refine r_iald (pc' := 123) C sh_153 (vin q27) dX9_night_122 rfl ?_
  refine r_i2l (pc' := 124) C dX9_night_123 rfl rfl ?_
  obtain ⟨r28, e29, h⟩ := bd h
  refine r_cV0 (pc' := 127) C (X9_enters_ok  e29) mlX9_327 ceX9_enters cvX9_enters sh_149 rfl rfl rfl (Nat.le_of_ble_eq_true rfl) rfl (Nat.le_of_ble_eq_true rfl) dX9_night_124 rfl (kk := ?_)
  refine r_iload (pc' := 129) C dX9_night_127 rfl 1 rfl ?_
  refine r_if_le (tgt := 141) (pc' := 132) C dX9_night_129 rfl rfl (fun c30 => ?_) (fun c30 => ?_)
  · rw [if_pos c30] at h
    refine r_iconst (pc' := 142) C dX9_night_141 rfl kc_0 ?_
    have h := Option.some.inj h
    subst h
    exact r_ret C rfl dX9_night_142 hE
  · rw [if_neg c30] at h
    refine r_aload_n (pc' := 133) C dX9_night_132 rfl 0 rfl ?_
    refine r_iload (pc' := 135) C dX9_night_133 rfl 1 rfl ?_
    obtain ⟨r31, e32, h⟩ := bd h
    refine r_cV1 (pc' := 138) C (X9_adds_ok  e32) mlX9_216 ceX9_adds cvX9_adds sh_149 rfl rfl rfl (Nat.le_of_ble_eq_true rfl) rfl (Nat.le_of_ble_eq_true rfl) dX9_night_135 rfl (kk := ?_)
    refine r_goto (tgt := 142) C dX9_night_138 rfl ?_
    have h := Option.some.inj h
    subst h
    exact r_ret C rfl dX9_night_142 hE
def X9_night_j88 (N : Nat)   (v4 : Int32) (σ : Sg) : Option (Int32 × Sg) :=
  bnS (wi σ 149 1 0) fun σ20 => if (gi σ20 149 30) ≤ v4 then (X9_night_j108 N v4 0 σ20) else (X9_night_j108 N v4 1 σ20)
set_option maxRecDepth 100000 in
set_option maxHeartbeats 4000000 in
theorem X9_night_j88_ok {E : Ev}  {N : Nat}    {v4 : Int32} {σ : Sg} {r : Int32 × Sg} (h : X9_night_j88 N   v4 σ = some r) : Gp E RX9 cX9_night (some .int) 5 (9) SH0 r.2 (some (.int r.1)) σ 88 [(0, .ref 149), (4, .int v4)] [] := by
  intro Z C hE
  unfold X9_night_j88 at h
  refine r_aload_n (pc' := 89) C dX9_night_88 rfl 0 rfl ?_
  refine r_iconst (pc' := 90) C dX9_night_89 rfl kc_0 ?_
  obtain ⟨σ20, e21, h⟩ := bs h
  refine r_putI (pc' := 93) (σ1 := σ20) C fpX9_15 sh_149 rfl rfl rfl dX9_night_90 rfl e21 ?_
  refine r_aload_n (pc' := 94) C dX9_night_93 rfl 0 rfl ?_
  refine r_iload (pc' := 96) C dX9_night_94 rfl 1 rfl ?_
  refine r_aload_n (pc' := 97) C dX9_night_96 rfl 0 rfl ?_
  refine r_getI (pc' := 100) C flX9_348 sh_149 rfl dX9_night_97 rfl ?_
  refine r_icmp_ge (tgt := 107) (pc' := 103) C dX9_night_100 rfl rfl (fun c22 => ?_) (fun c22 => ?_)
  · rw [if_pos c22] at h
    refine r_iconst (pc' := 108) C dX9_night_107 rfl kc_0 ?_
    exact X9_night_j108_ok  h Z C hE
  · rw [if_neg c22] at h
    refine r_iconst (pc' := 104) C dX9_night_103 rfl kc_1 ?_
    refine r_goto (tgt := 108) C dX9_night_104 rfl ?_
    exact X9_night_j108_ok  h Z C hE
def X9_night_j42 (N : Nat)   (v1 : Int32) (v2 : Int32) (σ : Sg) : Option (Int32 × Sg) :=
  (X9_faultOf N v1 60 v2 σ).bind fun r11 => (if 0 ≤ r11 then ((X9_putsBy N σ).bind fun r14 => (X9_night_l64 N (fun v4 σ => X9_night_j88 N v4 σ) N 0 r14)) else (some (r11, σ)))
set_option maxRecDepth 100000 in
set_option maxHeartbeats 4000000 in
theorem X9_night_j42_ok {E : Ev}  {N : Nat}    {v1 : Int32} {v2 : Int32} {σ : Sg} {r : Int32 × Sg} (h : X9_night_j42 N   v1 v2 σ = some r) : Gp E RX9 cX9_night (some .int) 5 (9) SH0 r.2 (some (.int r.1)) σ 42 [(0, .ref 149), (1, .int v1), (2, .int v2)] [] := by
  intro Z C hE
  unfold X9_night_j42 at h
  refine r_aload_n (pc' := 43) C dX9_night_42 rfl 0 rfl ?_
  refine r_iload_n (pc' := 44) C dX9_night_43 rfl 1 rfl ?_
  refine r_bipush (pc' := 46) C dX9_night_44 rfl kb_60 ?_
  refine r_iload_n (pc' := 47) C dX9_night_46 rfl 2 rfl ?_
  obtain ⟨r11, e12, h⟩ := bd h
  refine r_cV1 (pc' := 50) C (X9_faultOf_ok  e12) mlX9_192 ceX9_faultOf cvX9_faultOf sh_149 rfl rfl rfl (Nat.le_of_ble_eq_true rfl) rfl (Nat.le_of_ble_eq_true rfl) dX9_night_47 rfl (kk := ?_)
  refine r_istore_n (pc' := 51) (lv2 := [(3, .int r11), (0, .ref 149), (1, .int v1), (2, .int v2)]) C dX9_night_50 rfl rfl (Nat.le_of_ble_eq_true rfl) rfl ?_
  refine r_iload_n (pc' := 52) C dX9_night_51 rfl 0 rfl ?_
  refine r_if_ge (tgt := 57) (pc' := 55) C dX9_night_52 rfl rfl (fun c13 => ?_) (fun c13 => ?_)
  · rw [if_pos c13] at h
    refine r_aload_n (pc' := 58) C dX9_night_57 rfl 1 rfl ?_
    obtain ⟨r14, e15, h⟩ := bd h
    refine r_cV0 (pc' := 61) C (X9_putsBy_ok  e15) mlX9_209 ceX9_putsBy cvX9_putsBy sh_149 rfl rfl rfl (Nat.le_of_ble_eq_true rfl) rfl (Nat.le_of_ble_eq_true rfl) dX9_night_58 rfl (kk := ?_)
    refine r_iconst (pc' := 62) C dX9_night_61 rfl kc_0 ?_
    refine r_istore (pc' := 64) (lv2 := [(4, .int 0), (3, .int r11), (0, .ref 149), (1, .int v1), (2, .int v2)]) C dX9_night_62 rfl (Nat.le_of_ble_eq_true rfl) rfl ?_
    refine r_sub [2, 0] rfl ?_
    exact X9_night_l64_ok  (fun _ _ _ h Z C hE => by exact X9_night_j88_ok  h Z C hE) N _ _ _ h Z C hE
  · rw [if_neg c13] at h
    refine r_iload_n (pc' := 56) C dX9_night_55 rfl 0 rfl ?_
    have h := Option.some.inj h
    subst h
    exact r_ret C rfl dX9_night_56 hE
def X9_night (N : Nat)   (σ : Sg) : Option (Int32 × Sg) :=
  bnS (wi σ 149 0 0) fun σ1 => (X9_begins N 60 σ1).bind fun r3 => (bnS (wi r3.2 149 30 0) fun σ5 => X9_night_l19 N (fun v1 v2 σ => X9_night_j42 N v1 v2 σ) N r3.1 1 σ5)
set_option maxRecDepth 100000 in
set_option maxHeartbeats 4000000 in
theorem X9_night_ok {E : Ev}  {N : Nat}  {σ : Sg} {r : Int32 × Sg} (h : X9_night N   σ = some r) : Cm E (9) yX9_night cX9_night 5 (some .int) [.ref 149] SH0 SH0 σ r.2 (some (.int r.1)) 0 0 := by
  refine Cm.intro (by decide +kernel) (Nat.le_of_ble_eq_true rfl) (fun _ h => by obtain ⟨_, _, _, _, _, _, h⟩ := h; exact h) (fun Z C hE => ?_)
  show Wm E Z 0 0 SH0 σ 0 [(0, .ref 149)] []
  unfold X9_night at h
  refine r_aload_n (pc' := 1) C dX9_night_0 rfl 0 rfl ?_
  refine r_iconst (pc' := 2) C dX9_night_1 rfl kc_0 ?_
  obtain ⟨σ1, e2, h⟩ := bs h
  refine r_putI (pc' := 5) (σ1 := σ1) C fpX9_3 sh_149 rfl rfl rfl dX9_night_2 rfl e2 ?_
  refine r_aload_n (pc' := 6) C dX9_night_5 rfl 0 rfl ?_
  refine r_bipush (pc' := 8) C dX9_night_6 rfl kb_60 ?_
  obtain ⟨r3, e4, h⟩ := bd h
  refine r_cV1 (pc' := 11) C (X9_begins_ok  e4) mlX9_180 ceX9_begins cvX9_begins sh_149 rfl rfl rfl (Nat.le_of_ble_eq_true rfl) rfl (Nat.le_of_ble_eq_true rfl) dX9_night_8 rfl (kk := ?_)
  refine r_istore_n (pc' := 12) (lv2 := [(1, .int r3.1), (0, .ref 149)]) C dX9_night_11 rfl rfl (Nat.le_of_ble_eq_true rfl) rfl ?_
  refine r_aload_n (pc' := 13) C dX9_night_12 rfl 1 rfl ?_
  refine r_iconst (pc' := 14) C dX9_night_13 rfl kc_0 ?_
  obtain ⟨σ5, e6, h⟩ := bs h
  refine r_putI (pc' := 17) (σ1 := σ5) C fpX9_348 sh_149 rfl rfl rfl dX9_night_14 rfl e6 ?_
  refine r_iconst (pc' := 18) C dX9_night_17 rfl kc_1 ?_
  refine r_istore_n (pc' := 19) (lv2 := [(2, .int 1), (1, .int r3.1), (0, .ref 149)]) C dX9_night_18 rfl rfl (Nat.le_of_ble_eq_true rfl) rfl ?_
  refine r_sub [2, 1, 0] rfl ?_
  exact X9_night_l19_ok  (fun _ _ _ _ h Z C hE => by exact X9_night_j42_ok  h Z C hE) N _ _ _ _ h Z C hE

/-! java/lang/Integer.numberOfTrailingZeros(I)I -/
def J6_numberOfTrailingZeros_0f7a4_j74 (N : Nat)   (v0 : Int32) (v1 : Int32) (σ : Sg) : Option (Int32) :=
  some (v1 + (ushr v0 1))
set_option maxRecDepth 100000 in
set_option maxHeartbeats 4000000 in
theorem J6_numberOfTrailingZeros_0f7a4_j74_ok {E : Ev} {S : List Sh}  {N : Nat}  {σ : Sg}   {v0 : Int32} {v1 : Int32} {r : Int32} (h : J6_numberOfTrailingZeros_0f7a4_j74 N   v0 v1 σ = some r) : Gp E RJ6 cJ6_numberOfTrailingZeros_0f7a4 (some .int) 2 (0) S σ (some (.int r)) σ 74 [(0, .int v0), (1, .int v1)] [] := by
  intro Z C hE
  unfold J6_numberOfTrailingZeros_0f7a4_j74 at h
  refine r_iload_n (pc' := 75) C dJ6_numberOfTrailingZeros_0f7a4_74 rfl 1 rfl ?_
  refine r_iload_n (pc' := 76) C dJ6_numberOfTrailingZeros_0f7a4_75 rfl 0 rfl ?_
  refine r_iconst (pc' := 77) C dJ6_numberOfTrailingZeros_0f7a4_76 rfl kc_1 ?_
  refine r_iushr (pc' := 78) (v := ushr v0 1) C dJ6_numberOfTrailingZeros_0f7a4_77 rfl rfl ?_
  refine r_iadd (pc' := 79) C dJ6_numberOfTrailingZeros_0f7a4_78 rfl ?_
  have h := Option.some.inj h
  subst h
  exact r_ret C rfl dJ6_numberOfTrailingZeros_0f7a4_79 hE
def J6_numberOfTrailingZeros_0f7a4_j62 (N : Nat)   (v0 : Int32) (v1 : Int32) (σ : Sg) : Option (Int32) :=
  if v0 ≤ 4 then (J6_numberOfTrailingZeros_0f7a4_j74 N v0 v1 σ) else (J6_numberOfTrailingZeros_0f7a4_j74 N (ushr v0 2) (v1 + 2) σ)
set_option maxRecDepth 100000 in
set_option maxHeartbeats 4000000 in
theorem J6_numberOfTrailingZeros_0f7a4_j62_ok {E : Ev} {S : List Sh}  {N : Nat}  {σ : Sg}   {v0 : Int32} {v1 : Int32} {r : Int32} (h : J6_numberOfTrailingZeros_0f7a4_j62 N   v0 v1 σ = some r) : Gp E RJ6 cJ6_numberOfTrailingZeros_0f7a4 (some .int) 2 (0) S σ (some (.int r)) σ 62 [(0, .int v0), (1, .int v1)] [] := by
  intro Z C hE
  unfold J6_numberOfTrailingZeros_0f7a4_j62 at h
  refine r_iload_n (pc' := 63) C dJ6_numberOfTrailingZeros_0f7a4_62 rfl 0 rfl ?_
  refine r_iconst (pc' := 64) C dJ6_numberOfTrailingZeros_0f7a4_63 rfl kc_4 ?_
  refine r_icmp_le (tgt := 74) (pc' := 67) C dJ6_numberOfTrailingZeros_0f7a4_64 rfl rfl (fun c5 => ?_) (fun c5 => ?_)
  · rw [if_pos c5] at h
    exact J6_numberOfTrailingZeros_0f7a4_j74_ok  h Z C hE
  · rw [if_neg c5] at h
    refine r_iinc (pc' := 70) (v := v1 + 2) (lv2 := [(1, .int (v1 + 2)), (0, .int v0)]) C dJ6_numberOfTrailingZeros_0f7a4_67 rfl 1 rfl rfl (Nat.le_of_ble_eq_true rfl) rfl ?_
    refine r_iload_n (pc' := 71) C dJ6_numberOfTrailingZeros_0f7a4_70 rfl 1 rfl ?_
    refine r_iconst (pc' := 72) C dJ6_numberOfTrailingZeros_0f7a4_71 rfl kc_2 ?_
    refine r_iushr (pc' := 73) (v := ushr v0 2) C dJ6_numberOfTrailingZeros_0f7a4_72 rfl rfl ?_
    refine r_istore_n (pc' := 74) (lv2 := [(0, .int (ushr v0 2)), (1, .int (v1 + 2))]) C dJ6_numberOfTrailingZeros_0f7a4_73 rfl rfl (Nat.le_of_ble_eq_true rfl) rfl ?_
    exact J6_numberOfTrailingZeros_0f7a4_j74_ok  h Z C hE
def J6_numberOfTrailingZeros_0f7a4_j49 (N : Nat)   (v0 : Int32) (v1 : Int32) (σ : Sg) : Option (Int32) :=
  if v0 ≤ 16 then (J6_numberOfTrailingZeros_0f7a4_j62 N v0 v1 σ) else (J6_numberOfTrailingZeros_0f7a4_j62 N (ushr v0 4) (v1 + 4) σ)
set_option maxRecDepth 100000 in
set_option maxHeartbeats 4000000 in
theorem J6_numberOfTrailingZeros_0f7a4_j49_ok {E : Ev} {S : List Sh}  {N : Nat}  {σ : Sg}   {v0 : Int32} {v1 : Int32} {r : Int32} (h : J6_numberOfTrailingZeros_0f7a4_j49 N   v0 v1 σ = some r) : Gp E RJ6 cJ6_numberOfTrailingZeros_0f7a4 (some .int) 2 (0) S σ (some (.int r)) σ 49 [(0, .int v0), (1, .int v1)] [] := by
  intro Z C hE
  unfold J6_numberOfTrailingZeros_0f7a4_j49 at h
  refine r_iload_n (pc' := 50) C dJ6_numberOfTrailingZeros_0f7a4_49 rfl 0 rfl ?_
  refine r_bipush (pc' := 52) C dJ6_numberOfTrailingZeros_0f7a4_50 rfl kb_16 ?_
  refine r_icmp_le (tgt := 62) (pc' := 55) C dJ6_numberOfTrailingZeros_0f7a4_52 rfl rfl (fun c4 => ?_) (fun c4 => ?_)
  · rw [if_pos c4] at h
    exact J6_numberOfTrailingZeros_0f7a4_j62_ok  h Z C hE
  · rw [if_neg c4] at h
    refine r_iinc (pc' := 58) (v := v1 + 4) (lv2 := [(1, .int (v1 + 4)), (0, .int v0)]) C dJ6_numberOfTrailingZeros_0f7a4_55 rfl 1 rfl rfl (Nat.le_of_ble_eq_true rfl) rfl ?_
    refine r_iload_n (pc' := 59) C dJ6_numberOfTrailingZeros_0f7a4_58 rfl 1 rfl ?_
    refine r_iconst (pc' := 60) C dJ6_numberOfTrailingZeros_0f7a4_59 rfl kc_4 ?_
    refine r_iushr (pc' := 61) (v := ushr v0 4) C dJ6_numberOfTrailingZeros_0f7a4_60 rfl rfl ?_
    refine r_istore_n (pc' := 62) (lv2 := [(0, .int (ushr v0 4)), (1, .int (v1 + 4))]) C dJ6_numberOfTrailingZeros_0f7a4_61 rfl rfl (Nat.le_of_ble_eq_true rfl) rfl ?_
    exact J6_numberOfTrailingZeros_0f7a4_j62_ok  h Z C hE
def J6_numberOfTrailingZeros_0f7a4_j34 (N : Nat)   (v0 : Int32) (v1 : Int32) (σ : Sg) : Option (Int32) :=
  if v0 ≤ 256 then (J6_numberOfTrailingZeros_0f7a4_j49 N v0 v1 σ) else (J6_numberOfTrailingZeros_0f7a4_j49 N (ushr v0 8) (v1 + 8) σ)
set_option maxRecDepth 100000 in
set_option maxHeartbeats 4000000 in
theorem J6_numberOfTrailingZeros_0f7a4_j34_ok {E : Ev} {S : List Sh}  {N : Nat}  {σ : Sg}   {v0 : Int32} {v1 : Int32} {r : Int32} (h : J6_numberOfTrailingZeros_0f7a4_j34 N   v0 v1 σ = some r) : Gp E RJ6 cJ6_numberOfTrailingZeros_0f7a4 (some .int) 2 (0) S σ (some (.int r)) σ 34 [(0, .int v0), (1, .int v1)] [] := by
  intro Z C hE
  unfold J6_numberOfTrailingZeros_0f7a4_j34 at h
  refine r_iload_n (pc' := 35) C dJ6_numberOfTrailingZeros_0f7a4_34 rfl 0 rfl ?_
  refine r_sipush (pc' := 38) C dJ6_numberOfTrailingZeros_0f7a4_35 rfl ks_256 ?_
  refine r_icmp_le (tgt := 49) (pc' := 41) C dJ6_numberOfTrailingZeros_0f7a4_38 rfl rfl (fun c3 => ?_) (fun c3 => ?_)
  · rw [if_pos c3] at h
    exact J6_numberOfTrailingZeros_0f7a4_j49_ok  h Z C hE
  · rw [if_neg c3] at h
    refine r_iinc (pc' := 44) (v := v1 + 8) (lv2 := [(1, .int (v1 + 8)), (0, .int v0)]) C dJ6_numberOfTrailingZeros_0f7a4_41 rfl 1 rfl rfl (Nat.le_of_ble_eq_true rfl) rfl ?_
    refine r_iload_n (pc' := 45) C dJ6_numberOfTrailingZeros_0f7a4_44 rfl 1 rfl ?_
    refine r_bipush (pc' := 47) C dJ6_numberOfTrailingZeros_0f7a4_45 rfl kb_8 ?_
    refine r_iushr (pc' := 48) (v := ushr v0 8) C dJ6_numberOfTrailingZeros_0f7a4_47 rfl rfl ?_
    refine r_istore_n (pc' := 49) (lv2 := [(0, .int (ushr v0 8)), (1, .int (v1 + 8))]) C dJ6_numberOfTrailingZeros_0f7a4_48 rfl rfl (Nat.le_of_ble_eq_true rfl) rfl ?_
    exact J6_numberOfTrailingZeros_0f7a4_j49_ok  h Z C hE
def J6_numberOfTrailingZeros_0f7a4 (N : Nat)  (v0 : Int32) (σ : Sg) : Option (Int32) :=
  if 0 < ((v0 ^^^ (-1)) &&& (v0 - 1)) then (if ((v0 ^^^ (-1)) &&& (v0 - 1)) ≤ 65536 then (J6_numberOfTrailingZeros_0f7a4_j34 N ((v0 ^^^ (-1)) &&& (v0 - 1)) 1 σ) else (J6_numberOfTrailingZeros_0f7a4_j34 N (ushr ((v0 ^^^ (-1)) &&& (v0 - 1)) 16) (1 + 16) σ)) else (some (((v0 ^^^ (-1)) &&& (v0 - 1)) &&& 32))
set_option maxRecDepth 100000 in
set_option maxHeartbeats 4000000 in
theorem J6_numberOfTrailingZeros_0f7a4_ok {E : Ev} {S : List Sh}  {N : Nat} {v0 : Int32} {σ : Sg} {r : Int32} (h : J6_numberOfTrailingZeros_0f7a4 N  v0 σ = some r) : Cm E (0) yJ6_numberOfTrailingZeros_0f7a4 cJ6_numberOfTrailingZeros_0f7a4 2 (some .int) [.int v0] S S σ σ (some (.int r)) 0 0 := by
  refine Cm.intro (by decide +kernel) (Nat.le_of_ble_eq_true rfl) (fun _ h => by obtain ⟨_, _, _, _, _, _, h⟩ := h; exact h) (fun Z C hE => ?_)
  show Wm E Z 0 0 S σ 0 [(0, .int v0)] []
  unfold J6_numberOfTrailingZeros_0f7a4 at h
  refine r_iload_n (pc' := 1) C dJ6_numberOfTrailingZeros_0f7a4_0 rfl 0 rfl ?_
  refine r_iconst (pc' := 2) C dJ6_numberOfTrailingZeros_0f7a4_1 rfl kc_m1 ?_
  refine r_ixor (pc' := 3) C dJ6_numberOfTrailingZeros_0f7a4_2 rfl ?_
  refine r_iload_n (pc' := 4) C dJ6_numberOfTrailingZeros_0f7a4_3 rfl 0 rfl ?_
  refine r_iconst (pc' := 5) C dJ6_numberOfTrailingZeros_0f7a4_4 rfl kc_1 ?_
  refine r_isub (pc' := 6) C dJ6_numberOfTrailingZeros_0f7a4_5 rfl ?_
  refine r_iand (pc' := 7) C dJ6_numberOfTrailingZeros_0f7a4_6 rfl ?_
  refine r_istore_n (pc' := 8) (lv2 := [(0, .int ((v0 ^^^ (-1)) &&& (v0 - 1)))]) C dJ6_numberOfTrailingZeros_0f7a4_7 rfl rfl (Nat.le_of_ble_eq_true rfl) rfl ?_
  refine r_iload_n (pc' := 9) C dJ6_numberOfTrailingZeros_0f7a4_8 rfl 0 rfl ?_
  refine r_if_gt (tgt := 17) (pc' := 12) C dJ6_numberOfTrailingZeros_0f7a4_9 rfl rfl (fun c1 => ?_) (fun c1 => ?_)
  · rw [if_pos c1] at h
    refine r_iconst (pc' := 18) C dJ6_numberOfTrailingZeros_0f7a4_17 rfl kc_1 ?_
    refine r_istore_n (pc' := 19) (lv2 := [(1, .int 1), (0, .int ((v0 ^^^ (-1)) &&& (v0 - 1)))]) C dJ6_numberOfTrailingZeros_0f7a4_18 rfl rfl (Nat.le_of_ble_eq_true rfl) rfl ?_
    refine r_iload_n (pc' := 20) C dJ6_numberOfTrailingZeros_0f7a4_19 rfl 1 rfl ?_
    refine r_ldcw (pc' := 23) C cnJ6_264 dJ6_numberOfTrailingZeros_0f7a4_20 rfl ?_
    refine r_icmp_le (tgt := 34) (pc' := 26) C dJ6_numberOfTrailingZeros_0f7a4_23 rfl rfl (fun c2 => ?_) (fun c2 => ?_)
    · rw [if_pos c2] at h
      refine r_sub [1, 0] rfl ?_
      exact J6_numberOfTrailingZeros_0f7a4_j34_ok  h Z C hE
    · rw [if_neg c2] at h
      refine r_iinc (pc' := 29) (v := 1 + 16) (lv2 := [(1, .int (1 + 16)), (0, .int ((v0 ^^^ (-1)) &&& (v0 - 1)))]) C dJ6_numberOfTrailingZeros_0f7a4_26 rfl 0 rfl rfl (Nat.le_of_ble_eq_true rfl) rfl ?_
      refine r_iload_n (pc' := 30) C dJ6_numberOfTrailingZeros_0f7a4_29 rfl 1 rfl ?_
      refine r_bipush (pc' := 32) C dJ6_numberOfTrailingZeros_0f7a4_30 rfl kb_16 ?_
      refine r_iushr (pc' := 33) (v := ushr ((v0 ^^^ (-1)) &&& (v0 - 1)) 16) C dJ6_numberOfTrailingZeros_0f7a4_32 rfl rfl ?_
      refine r_istore_n (pc' := 34) (lv2 := [(0, .int (ushr ((v0 ^^^ (-1)) &&& (v0 - 1)) 16)), (1, .int (1 + 16))]) C dJ6_numberOfTrailingZeros_0f7a4_33 rfl rfl (Nat.le_of_ble_eq_true rfl) rfl ?_
      exact J6_numberOfTrailingZeros_0f7a4_j34_ok  h Z C hE
  · rw [if_neg c1] at h
    refine r_iload_n (pc' := 13) C dJ6_numberOfTrailingZeros_0f7a4_12 rfl 0 rfl ?_
    refine r_bipush (pc' := 15) C dJ6_numberOfTrailingZeros_0f7a4_13 rfl kb_32 ?_
    refine r_iand (pc' := 16) C dJ6_numberOfTrailingZeros_0f7a4_15 rfl ?_
    have h := Option.some.inj h
    subst h
    exact r_ret C rfl dJ6_numberOfTrailingZeros_0f7a4_16 hE

/-! BorrowedWeightModel.firstOnes([I)I -/
def X9_firstOnes_l4 (N : Nat) (k1 : Nat)  (σ : Sg) : Nat → Int32 → Int32 → Option (Int32)
  | 0, _, _ => none
  | n + 1, v2, v3 =>
    if (gi σ 149 3) ≤ v3 then (some v2) else ((X9_bundle N k1 v3 σ).bind fun r2 => (if r2 = 0 then (X9_firstOnes_l4 N k1 σ n (v2 ||| 0) (v3 + 1)) else ((J6_numberOfTrailingZeros_0f7a4 N r2 σ).bind fun r5 => (if r5 = v3 then (X9_firstOnes_l4 N k1 σ n (v2 ||| (1 <<< (v3 &&& 31))) (v3 + 1)) else (X9_firstOnes_l4 N k1 σ n (v2 ||| 0) (v3 + 1))))))
set_option maxRecDepth 100000 in
set_option maxHeartbeats 4000000 in
theorem X9_firstOnes_l4_ok {E : Ev} {k1 : Nat} (hk1 : MaAt SH0 k1) {N : Nat}  {σ : Sg}  : ∀ (n : Nat) (v2 : Int32) (v3 : Int32) (r : Int32), X9_firstOnes_l4 N k1 σ n v2 v3 = some r → Gp E RX9 cX9_firstOnes (some .int) 5 (2) SH0 σ (some (.int r)) σ 4 [(0, .ref 149), (1, .ref k1), (2, .int v2), (3, .int v3)] [] := by
  intro n
  induction n with
  | zero => intro v2 v3 r h; cases h
  | succ n ih =>
    intro v2 v3 r h Z C hE
    unfold X9_firstOnes_l4 at h
    refine r_iload_n (pc' := 5) C dX9_firstOnes_4 rfl 3 rfl ?_
    refine r_aload_n (pc' := 6) C dX9_firstOnes_5 rfl 0 rfl ?_
    refine r_getI (pc' := 9) C flX9_116 sh_149 rfl dX9_firstOnes_6 rfl ?_
    refine r_icmp_ge (tgt := 50) (pc' := 12) C dX9_firstOnes_9 rfl rfl (fun c1 => ?_) (fun c1 => ?_)
    · rw [if_pos c1] at h
      refine r_iload_n (pc' := 51) C dX9_firstOnes_50 rfl 2 rfl ?_
      have h := Option.some.inj h
      subst h
      exact r_ret C rfl dX9_firstOnes_51 hE
    · rw [if_neg c1] at h
      refine r_aload_n (pc' := 13) C dX9_firstOnes_12 rfl 0 rfl ?_
      refine r_aload_n (pc' := 14) C dX9_firstOnes_13 rfl 1 rfl ?_
      refine r_iload_n (pc' := 15) C dX9_firstOnes_14 rfl 3 rfl ?_
      obtain ⟨r2, e3, h⟩ := bd h
      refine r_cV1 (pc' := 18) C (X9_bundle_ok hk1 e3) mlX9_281 ceX9_bundle cvX9_bundle sh_149 rfl rfl rfl (Nat.le_of_ble_eq_true rfl) rfl (Nat.le_of_ble_eq_true rfl) dX9_firstOnes_15 rfl (kk := ?_)
      refine r_istore (pc' := 20) (lv2 := [(4, .int r2), (0, .ref 149), (1, .ref k1), (2, .int v2), (3, .int v3)]) C dX9_firstOnes_18 rfl (Nat.le_of_ble_eq_true rfl) rfl ?_
      refine r_iload_n (pc' := 21) C dX9_firstOnes_20 rfl 3 rfl ?_
      refine r_iload (pc' := 23) C dX9_firstOnes_21 rfl 0 rfl ?_
      refine r_if_eq (tgt := 41) (pc' := 26) C dX9_firstOnes_23 rfl rfl (fun c4 => ?_) (fun c4 => ?_)
      · rw [if_pos c4] at h
        refine r_iconst (pc' := 42) C dX9_firstOnes_41 rfl kc_0 ?_
        refine r_ior (pc' := 43) C dX9_firstOnes_42 rfl ?_
        refine r_istore_n (pc' := 44) (lv2 := [(2, .int (v2 ||| 0)), (4, .int r2), (0, .ref 149), (1, .ref k1), (3, .int v3)]) C dX9_firstOnes_43 rfl rfl (Nat.le_of_ble_eq_true rfl) rfl ?_
        refine r_iinc (pc' := 47) (v := v3 + 1) (lv2 := [(3, .int (v3 + 1)), (2, .int (v2 ||| 0)), (4, .int r2), (0, .ref 149), (1, .ref k1)]) C dX9_firstOnes_44 rfl 4 rfl rfl (Nat.le_of_ble_eq_true rfl) rfl ?_
        refine r_goto (tgt := 4) C dX9_firstOnes_47 rfl ?_
        refine r_sub [3, 4, 1, 0] rfl ?_
        exact ih _ _ _ h Z C hE
      · rw [if_neg c4] at h
        refine r_iload (pc' := 28) C dX9_firstOnes_26 rfl 0 rfl ?_
        obtain ⟨r5, e6, h⟩ := bd h
        refine r_cS1 (pc' := 31) C (J6_numberOfTrailingZeros_0f7a4_ok  e6) mlX9_284 ceJ6_numberOfTrailingZeros_0f7a4 csJ6_numberOfTrailingZeros_0f7a4 rfl (Nat.le_of_ble_eq_true rfl) rfl (Nat.le_of_ble_eq_true rfl) dX9_firstOnes_28 rfl (kk := ?_)
        refine r_iload_n (pc' := 32) C dX9_firstOnes_31 rfl 4 rfl ?_
        refine r_icmp_ne (tgt := 41) (pc' := 35) C dX9_firstOnes_32 rfl rfl (fun c7 => ?_) (fun c7 => ?_)
        · rw [if_neg c7] at h
          refine r_iconst (pc' := 42) C dX9_firstOnes_41 rfl kc_0 ?_
          refine r_ior (pc' := 43) C dX9_firstOnes_42 rfl ?_
          refine r_istore_n (pc' := 44) (lv2 := [(2, .int (v2 ||| 0)), (4, .int r2), (0, .ref 149), (1, .ref k1), (3, .int v3)]) C dX9_firstOnes_43 rfl rfl (Nat.le_of_ble_eq_true rfl) rfl ?_
          refine r_iinc (pc' := 47) (v := v3 + 1) (lv2 := [(3, .int (v3 + 1)), (2, .int (v2 ||| 0)), (4, .int r2), (0, .ref 149), (1, .ref k1)]) C dX9_firstOnes_44 rfl 4 rfl rfl (Nat.le_of_ble_eq_true rfl) rfl ?_
          refine r_goto (tgt := 4) C dX9_firstOnes_47 rfl ?_
          refine r_sub [3, 4, 1, 0] rfl ?_
          exact ih _ _ _ h Z C hE
        · rw [if_pos c7] at h
          refine r_iconst (pc' := 36) C dX9_firstOnes_35 rfl kc_1 ?_
          refine r_iload_n (pc' := 37) C dX9_firstOnes_36 rfl 4 rfl ?_
          refine r_ishl (pc' := 38) C dX9_firstOnes_37 rfl ?_
          refine r_goto (tgt := 42) C dX9_firstOnes_38 rfl ?_
          refine r_ior (pc' := 43) C dX9_firstOnes_42 rfl ?_
          refine r_istore_n (pc' := 44) (lv2 := [(2, .int (v2 ||| (1 <<< (v3 &&& 31)))), (4, .int r2), (0, .ref 149), (1, .ref k1), (3, .int v3)]) C dX9_firstOnes_43 rfl rfl (Nat.le_of_ble_eq_true rfl) rfl ?_
          refine r_iinc (pc' := 47) (v := v3 + 1) (lv2 := [(3, .int (v3 + 1)), (2, .int (v2 ||| (1 <<< (v3 &&& 31)))), (4, .int r2), (0, .ref 149), (1, .ref k1)]) C dX9_firstOnes_44 rfl 4 rfl rfl (Nat.le_of_ble_eq_true rfl) rfl ?_
          refine r_goto (tgt := 4) C dX9_firstOnes_47 rfl ?_
          refine r_sub [3, 4, 1, 0] rfl ?_
          exact ih _ _ _ h Z C hE
def X9_firstOnes (N : Nat) (k1 : Nat)  (σ : Sg) : Option (Int32) :=
  X9_firstOnes_l4 N k1 σ N 0 0
set_option maxRecDepth 100000 in
set_option maxHeartbeats 4000000 in
theorem X9_firstOnes_ok {E : Ev} {k1 : Nat} (hk1 : MaAt SH0 k1) {N : Nat}  {σ : Sg} {r : Int32} (h : X9_firstOnes N k1  σ = some r) : Cm E (2) yX9_firstOnes cX9_firstOnes 5 (some .int) [.ref 149, .ref k1] SH0 SH0 σ σ (some (.int r)) 0 0 := by
  refine Cm.intro (by decide +kernel) (Nat.le_of_ble_eq_true rfl) (fun _ h => by obtain ⟨_, _, _, _, _, _, h⟩ := h; exact h) (fun Z C hE => ?_)
  show Wm E Z 0 0 SH0 σ 0 [(0, .ref 149), (1, .ref k1)] []
  unfold X9_firstOnes at h
  refine r_iconst (pc' := 1) C dX9_firstOnes_0 rfl kc_0 ?_
  refine r_istore_n (pc' := 2) (lv2 := [(2, .int 0), (0, .ref 149), (1, .ref k1)]) C dX9_firstOnes_1 rfl rfl (Nat.le_of_ble_eq_true rfl) rfl ?_
  refine r_iconst (pc' := 3) C dX9_firstOnes_2 rfl kc_0 ?_
  refine r_istore_n (pc' := 4) (lv2 := [(3, .int 0), (2, .int 0), (0, .ref 149), (1, .ref k1)]) C dX9_firstOnes_3 rfl rfl (Nat.le_of_ble_eq_true rfl) rfl ?_
  refine r_sub [2, 3, 1, 0] rfl ?_
  exact X9_firstOnes_l4_ok hk1 N _ _ _ h Z C hE

/-! BorrowedWeightModel.floats()I -/
def X9_floats (N : Nat)   (σ : Sg) : Option (Int32 × Sg) :=
  bnS (wi σ 149 0 0) fun σ1 => (X9_floating N 153 σ1).bind fun r3 => (bnS (wi r3.2 149 1 0) fun σ5 => (X9_firstOnes N 153 σ5).bind fun r7 => ((J6_bitCount_0f7a4 N r7 σ5).bind fun r9 => ((X9_enters N r9.toInt64 σ5).bind fun r11 => ((X9_firstOnes N 153 r11).bind fun r13 => ((J6_bitCount_0f7a4 N (r13 &&& r3.1) r11).bind fun r15 => ((X9_enters N r15.toInt64 r11).bind fun r17 => (some (r3.1, r17))))))))
set_option maxRecDepth 100000 in
set_option maxHeartbeats 4000000 in
theorem X9_floats_ok {E : Ev}  {N : Nat}  {σ : Sg} {r : Int32 × Sg} (h : X9_floats N   σ = some r) : Cm E (7) yX9_floats cX9_floats 2 (some .int) [.ref 149] SH0 SH0 σ r.2 (some (.int r.1)) 0 0 := by
  refine Cm.intro (by decide +kernel) (Nat.le_of_ble_eq_true rfl) (fun _ h => by obtain ⟨_, _, _, _, _, _, h⟩ := h; exact h) (fun Z C hE => ?_)
  show Wm E Z 0 0 SH0 σ 0 [(0, .ref 149)] []
  unfold X9_floats at h
  refine r_aload_n (pc' := 1) C dX9_floats_0 rfl 0 rfl ?_
  refine r_iconst (pc' := 2) C dX9_floats_1 rfl kc_0 ?_
  obtain ⟨σ1, e2, h⟩ := bs h
  refine r_putI (pc' := 5) (σ1 := σ1) C fpX9_3 sh_149 rfl rfl rfl dX9_floats_2 rfl e2 ?_
  refine r_aload_n (pc' := 6) C dX9_floats_5 rfl 0 rfl ?_
  refine r_aload_n (pc' := 7) C dX9_floats_6 rfl 0 rfl ?_
  refine r_getR (pc' := 10) C flX9_34 sh_149 rfl dX9_floats_7 rfl ?_
  obtain ⟨r3, e4, h⟩ := bd h
  refine r_cV1 (pc' := 13) C (X9_floating_ok mac_153 e4) mlX9_303 ceX9_floating cvX9_floating sh_149 rfl rfl rfl (Nat.le_of_ble_eq_true rfl) rfl (Nat.le_of_ble_eq_true rfl) dX9_floats_10 rfl (kk := ?_)
  refine r_istore_n (pc' := 14) (lv2 := [(1, .int r3.1), (0, .ref 149)]) C dX9_floats_13 rfl rfl (Nat.le_of_ble_eq_true rfl) rfl ?_
  refine r_aload_n (pc' := 15) C dX9_floats_14 rfl 1 rfl ?_
  refine r_iconst (pc' := 16) C dX9_floats_15 rfl kc_0 ?_
  obtain ⟨σ5, e6, h⟩ := bs h
  refine r_putI (pc' := 19) (σ1 := σ5) C fpX9_15 sh_149 rfl rfl rfl dX9_floats_16 rfl e6 ?_
  refine r_aload_n (pc' := 20) C dX9_floats_19 rfl 1 rfl ?_
  refine r_aload_n (pc' := 21) C dX9_floats_20 rfl 1 rfl ?_
  refine r_aload_n (pc' := 22) C dX9_floats_21 rfl 1 rfl ?_
  refine r_getR (pc' := 25) C flX9_34 sh_149 rfl dX9_floats_22 rfl ?_
  obtain ⟨r7, e8, h⟩ := bd h
  refine r_cV1 (pc' := 28) C (X9_firstOnes_ok mac_153 e8) mlX9_359 ceX9_firstOnes cvX9_firstOnes sh_149 rfl rfl rfl (Nat.le_of_ble_eq_true rfl) rfl (Nat.le_of_ble_eq_true rfl) dX9_floats_25 rfl (kk := ?_)
  obtain ⟨r9, e10, h⟩ := bd h
  refine r_cS1 (pc' := 31) C (J6_bitCount_0f7a4_ok  e10) mlX9_135 ceJ6_bitCount_0f7a4 csJ6_bitCount_0f7a4 rfl (Nat.le_of_ble_eq_true rfl) rfl (Nat.le_of_ble_eq_true rfl) dX9_floats_28 rfl (kk := ?_)
  refine r_i2l (pc' := 32) C dX9_floats_31 rfl rfl ?_
  obtain ⟨r11, e12, h⟩ := bd h
  refine r_cV0 (pc' := 35) C (X9_enters_ok  e12) mlX9_327 ceX9_enters cvX9_enters sh_149 rfl rfl rfl (Nat.le_of_ble_eq_true rfl) rfl (Nat.le_of_ble_eq_true rfl) dX9_floats_32 rfl (kk := ?_)
  refine r_aload_n (pc' := 36) C dX9_floats_35 rfl 1 rfl ?_
  refine r_aload_n (pc' := 37) C dX9_floats_36 rfl 1 rfl ?_
  refine r_aload_n (pc' := 38) C dX9_floats_37 rfl 1 rfl ?_
  refine r_getR (pc' := 41) C flX9_34 sh_149 rfl dX9_floats_38 rfl ?_
  obtain ⟨r13, e14, h⟩ := bd h
  refine r_cV1 (pc' := 44) C (X9_firstOnes_ok mac_153 e14) mlX9_359 ceX9_firstOnes cvX9_firstOnes sh_149 rfl rfl rfl (Nat.le_of_ble_eq_true rfl) rfl (Nat.le_of_ble_eq_true rfl) dX9_floats_41 rfl (kk := ?_)
  refine r_iload_n (pc' := 45) C dX9_floats_44 rfl 0 rfl ?_
  refine r_iand (pc' := 46) C dX9_floats_45 rfl ?_
  obtain ⟨r15, e16, h⟩ := bd h
  refine r_cS1 (pc' := 49) C (J6_bitCount_0f7a4_ok  e16) mlX9_135 ceJ6_bitCount_0f7a4 csJ6_bitCount_0f7a4 rfl (Nat.le_of_ble_eq_true rfl) rfl (Nat.le_of_ble_eq_true rfl) dX9_floats_46 rfl (kk := ?_)
  refine r_i2l (pc' := 50) C dX9_floats_49 rfl rfl ?_
  obtain ⟨r17, e18, h⟩ := bd h
  refine r_cV0 (pc' := 53) C (X9_enters_ok  e18) mlX9_327 ceX9_enters cvX9_enters sh_149 rfl rfl rfl (Nat.le_of_ble_eq_true rfl) rfl (Nat.le_of_ble_eq_true rfl) dX9_floats_50 rfl (kk := ?_)
  refine r_iload_n (pc' := 54) C dX9_floats_53 rfl 0 rfl ?_
  have h := Option.some.inj h
  subst h
  exact r_ret C rfl dX9_floats_54 hE

/-! BorrowedWeightModel.spare(I)I -/
def X9_spare (N : Nat)  (v1 : Int32) (σ : Sg) : Option (Int32 × Sg) :=
  bnS (wi σ 149 0 0) fun σ1 => (X9_isThing N v1 σ1).bind fun r3 => (if r3 = 0 then (some ((-1), σ1)) else ((X9_bundle N 153 v1 σ1).bind fun r6 => (if r6 = 0 then (some ((-2), σ1)) else (bnS (wi σ1 149 1 0) fun σ9 => (X9_sumOf N 153 0 r6 σ9).bind fun r11 => ((X9_enters N r11.toInt64 σ9).bind fun r13 => ((X9_needOf N 153 r6 r13).bind fun r15 => ((X9_enters N r15.1.toInt64 r15.2).bind fun r17 => ((X9_above N 153 r6 r17).bind fun r19 => (some (1000 + r19.1, r19.2))))))))))
set_option maxRecDepth 100000 in
set_option maxHeartbeats 4000000 in
theorem X9_spare_ok {E : Ev}  {N : Nat} {v1 : Int32} {σ : Sg} {r : Int32 × Sg} (h : X9_spare N  v1 σ = some r) : Cm E (6) yX9_spare cX9_spare 3 (some .int) [.ref 149, .int v1] SH0 SH0 σ r.2 (some (.int r.1)) 0 0 := by
  refine Cm.intro (by decide +kernel) (Nat.le_of_ble_eq_true rfl) (fun _ h => by obtain ⟨_, _, _, _, _, _, h⟩ := h; exact h) (fun Z C hE => ?_)
  show Wm E Z 0 0 SH0 σ 0 [(0, .ref 149), (1, .int v1)] []
  unfold X9_spare at h
  refine r_aload_n (pc' := 1) C dX9_spare_0 rfl 0 rfl ?_
  refine r_iconst (pc' := 2) C dX9_spare_1 rfl kc_0 ?_
  obtain ⟨σ1, e2, h⟩ := bs h
  refine r_putI (pc' := 5) (σ1 := σ1) C fpX9_3 sh_149 rfl rfl rfl dX9_spare_2 rfl e2 ?_
  refine r_aload_n (pc' := 6) C dX9_spare_5 rfl 0 rfl ?_
  refine r_iload_n (pc' := 7) C dX9_spare_6 rfl 1 rfl ?_
  obtain ⟨r3, e4, h⟩ := bd h
  refine r_cV1 (pc' := 10) C (X9_isThing_ok  e4) mlX9_123 ceX9_isThing cvX9_isThing sh_149 rfl rfl rfl (Nat.le_of_ble_eq_true rfl) rfl (Nat.le_of_ble_eq_true rfl) dX9_spare_7 rfl (kk := ?_)
  refine r_if_ne (tgt := 15) (pc' := 13) C dX9_spare_10 rfl rfl (fun c5 => ?_) (fun c5 => ?_)
  · rw [if_neg c5] at h
    refine r_aload_n (pc' := 16) C dX9_spare_15 rfl 0 rfl ?_
    refine r_aload_n (pc' := 17) C dX9_spare_16 rfl 0 rfl ?_
    refine r_getR (pc' := 20) C flX9_34 sh_149 rfl dX9_spare_17 rfl ?_
    refine r_iload_n (pc' := 21) C dX9_spare_20 rfl 1 rfl ?_
    obtain ⟨r6, e7, h⟩ := bd h
    refine r_cV1 (pc' := 24) C (X9_bundle_ok mac_153 e7) mlX9_281 ceX9_bundle cvX9_bundle sh_149 rfl rfl rfl (Nat.le_of_ble_eq_true rfl) rfl (Nat.le_of_ble_eq_true rfl) dX9_spare_21 rfl (kk := ?_)
    refine r_istore_n (pc' := 25) (lv2 := [(2, .int r6), (0, .ref 149), (1, .int v1)]) C dX9_spare_24 rfl rfl (Nat.le_of_ble_eq_true rfl) rfl ?_
    refine r_iload_n (pc' := 26) C dX9_spare_25 rfl 0 rfl ?_
    refine r_if_ne (tgt := 32) (pc' := 29) C dX9_spare_26 rfl rfl (fun c8 => ?_) (fun c8 => ?_)
    · rw [if_neg c8] at h
      refine r_aload_n (pc' := 33) C dX9_spare_32 rfl 1 rfl ?_
      refine r_iconst (pc' := 34) C dX9_spare_33 rfl kc_0 ?_
      obtain ⟨σ9, e10, h⟩ := bs h
      refine r_putI (pc' := 37) (σ1 := σ9) C fpX9_15 sh_149 rfl rfl rfl dX9_spare_34 rfl e10 ?_
      refine r_aload_n (pc' := 38) C dX9_spare_37 rfl 1 rfl ?_
      refine r_aload_n (pc' := 39) C dX9_spare_38 rfl 1 rfl ?_
      refine r_aload_n (pc' := 40) C dX9_spare_39 rfl 1 rfl ?_
      refine r_getR (pc' := 43) C flX9_34 sh_149 rfl dX9_spare_40 rfl ?_
      refine r_iconst (pc' := 44) C dX9_spare_43 rfl kc_0 ?_
      refine r_iload_n (pc' := 45) C dX9_spare_44 rfl 0 rfl ?_
      obtain ⟨r11, e12, h⟩ := bd h
      refine r_cV1 (pc' := 48) C (X9_sumOf_ok mac_153 e12) mlX9_274 ceX9_sumOf cvX9_sumOf sh_149 rfl rfl rfl (Nat.le_of_ble_eq_true rfl) rfl (Nat.le_of_ble_eq_true rfl) dX9_spare_45 rfl (kk := ?_)
      refine r_i2l (pc' := 49) C dX9_spare_48 rfl rfl ?_
      obtain ⟨r13, e14, h⟩ := bd h
      refine r_cV0 (pc' := 52) C (X9_enters_ok  e14) mlX9_327 ceX9_enters cvX9_enters sh_149 rfl rfl rfl (Nat.le_of_ble_eq_true rfl) rfl (Nat.le_of_ble_eq_true rfl) dX9_spare_49 rfl (kk := ?_)
      refine r_aload_n (pc' := 53) C dX9_spare_52 rfl 1 rfl ?_
      refine r_aload_n (pc' := 54) C dX9_spare_53 rfl 1 rfl ?_
      refine r_aload_n (pc' := 55) C dX9_spare_54 rfl 1 rfl ?_
      refine r_getR (pc' := 58) C flX9_34 sh_149 rfl dX9_spare_55 rfl ?_
      refine r_iload_n (pc' := 59) C dX9_spare_58 rfl 0 rfl ?_
      obtain ⟨r15, e16, h⟩ := bd h
      refine r_cV1 (pc' := 62) C (X9_needOf_ok mac_153 e16) mlX9_278 ceX9_needOf cvX9_needOf sh_149 rfl rfl rfl (Nat.le_of_ble_eq_true rfl) rfl (Nat.le_of_ble_eq_true rfl) dX9_spare_59 rfl (kk := ?_)
      refine r_i2l (pc' := 63) C dX9_spare_62 rfl rfl ?_
      obtain ⟨r17, e18, h⟩ := bd h
      refine r_cV0 (pc' := 66) C (X9_enters_ok  e18) mlX9_327 ceX9_enters cvX9_enters sh_149 rfl rfl rfl (Nat.le_of_ble_eq_true rfl) rfl (Nat.le_of_ble_eq_true rfl) dX9_spare_63 rfl (kk := ?_)
      refine r_sipush (pc' := 69) C dX9_spare_66 rfl ks_1000 ?_
      refine r_aload_n (pc' := 70) C dX9_spare_69 rfl 1 rfl ?_
      refine r_aload_n (pc' := 71) C dX9_spare_70 rfl 1 rfl ?_
      refine r_getR (pc' := 74) C flX9_34 sh_149 rfl dX9_spare_71 rfl ?_
      refine r_iload_n (pc' := 75) C dX9_spare_74 rfl 0 rfl ?_
      obtain ⟨r19, e20, h⟩ := bd h
      refine r_cV1 (pc' := 78) C (X9_above_ok mac_153 e20) mlX9_287 ceX9_above cvX9_above sh_149 rfl rfl rfl (Nat.le_of_ble_eq_true rfl) rfl (Nat.le_of_ble_eq_true rfl) dX9_spare_75 rfl (kk := ?_)
      refine r_iadd (pc' := 79) C dX9_spare_78 rfl ?_
      have h := Option.some.inj h
      subst h
      exact r_ret C rfl dX9_spare_79 hE
    · rw [if_pos c8] at h
      refine r_bipush (pc' := 31) C dX9_spare_29 rfl kb_m2 ?_
      have h := Option.some.inj h
      subst h
      exact r_ret C rfl dX9_spare_31 hE
  · rw [if_pos c5] at h
    refine r_iconst (pc' := 14) C dX9_spare_13 rfl kc_m1 ?_
    have h := Option.some.inj h
    subst h
    exact r_ret C rfl dX9_spare_14 hE

/-! BorrowedWeightModel.copies()V -/
def X9_copies_l2 (N : Nat)    : Nat → Int32 → Sg → Option (Sg)
  | 0, _, _ => none
  | n + 1, v1, σ =>
    if 37 ≤ v1 then (some σ) else (if inb v1 37 = true then if inb v1 37 = true then bnS (wi σ 154 v1.toNatClampNeg (gi σ 153 v1.toNatClampNeg)) fun σ4 => X9_copies_l2 N n (v1 + 1) σ4 else none else none)
set_option maxRecDepth 100000 in
set_option maxHeartbeats 4000000 in
theorem X9_copies_l2_ok {E : Ev}  {N : Nat}    : ∀ (n : Nat) (v1 : Int32) (σ : Sg) (r : Sg), X9_copies_l2 N n v1 σ = some r → Gp E RX9 cX9_copies none 2 (0) SH0 r (none) σ 2 [(0, .ref 149), (1, .int v1)] [] := by
  intro n
  induction n with
  | zero => intro v1 σ r h; cases h
  | succ n ih =>
    intro v1 σ r h Z C hE
    unfold X9_copies_l2 at h
    refine r_iload_n (pc' := 3) C dX9_copies_2 rfl 1 rfl ?_
    refine r_bipush (pc' := 5) C dX9_copies_3 rfl kb_37 ?_
    refine r_icmp_ge (tgt := 26) (pc' := 8) C dX9_copies_5 rfl rfl (fun c1 => ?_) (fun c1 => ?_)
    · rw [if_pos c1] at h
      have h := Option.some.inj h
      subst h
      exact r_vret C dX9_copies_26 hE
    · rw [if_neg c1] at h
      refine r_aload_n (pc' := 9) C dX9_copies_8 rfl 0 rfl ?_
      refine r_getR (pc' := 12) C flX9_37 sh_149 rfl dX9_copies_9 rfl ?_
      refine r_iload_n (pc' := 13) C dX9_copies_12 rfl 1 rfl ?_
      refine r_aload_n (pc' := 14) C dX9_copies_13 rfl 0 rfl ?_
      refine r_getR (pc' := 17) C flX9_34 sh_149 rfl dX9_copies_14 rfl ?_
      refine r_iload_n (pc' := 18) C dX9_copies_17 rfl 1 rfl ?_
      obtain ⟨q2, h⟩ := ck h
      refine r_iald (pc' := 19) C sh_153 (vin q2) dX9_copies_18 rfl ?_
      obtain ⟨q3, h⟩ := ck h
      obtain ⟨σ4, e5, h⟩ := bs h
      refine r_iast (pc' := 20) (σ1 := σ4) C sh_154 (vin q3) dX9_copies_19 rfl e5 ?_
      refine r_iinc (pc' := 23) (v := v1 + 1) (lv2 := [(1, .int (v1 + 1)), (0, .ref 149)]) C dX9_copies_20 rfl 1 rfl rfl (Nat.le_of_ble_eq_true rfl) rfl ?_
      refine r_goto (tgt := 2) C dX9_copies_23 rfl ?_
      refine r_sub [1, 0] rfl ?_
      exact ih _ _ _ h Z C hE
def X9_copies (N : Nat)   (σ : Sg) : Option (Sg) :=
  X9_copies_l2 N N 0 σ
set_option maxRecDepth 100000 in
set_option maxHeartbeats 4000000 in
theorem X9_copies_ok {E : Ev}  {N : Nat}  {σ : Sg} {r : Sg} (h : X9_copies N   σ = some r) : Cm E (0) yX9_copies cX9_copies 2 none [.ref 149] SH0 SH0 σ r (none) 0 0 := by
  refine Cm.intro (by decide +kernel) (Nat.le_of_ble_eq_true rfl) (fun _ h => by obtain ⟨_, _, _, _, _, _, h⟩ := h; exact h) (fun Z C hE => ?_)
  show Wm E Z 0 0 SH0 σ 0 [(0, .ref 149)] []
  unfold X9_copies at h
  refine r_iconst (pc' := 1) C dX9_copies_0 rfl kc_0 ?_
  refine r_istore_n (pc' := 2) (lv2 := [(1, .int 0), (0, .ref 149)]) C dX9_copies_1 rfl rfl (Nat.le_of_ble_eq_true rfl) rfl ?_
  refine r_sub [1, 0] rfl ?_
  exact X9_copies_l2_ok  N _ _ _ h Z C hE

/-! BorrowedWeightModel.height(II)I -/
def X9_height (N : Nat)  (v1 : Int32) (v2 : Int32) (σ : Sg) : Option (Int32 × Sg) :=
  bnS (wi σ 149 0 0) fun σ1 => (X9_isThing N v1 σ1).bind fun r3 => (if r3 = 0 then (some ((-1), σ1)) else ((X9_in N v2.toInt64 0 99 σ1).bind fun r6 => (if r6 = 0 then (some ((-1), σ1)) else ((X9_copies N σ1).bind fun r9 => ((X9_goesOn N 154 v2 r9).bind fun r11 => (bnS (wi r11 149 1 0) fun σ13 => if inb 32 37 = true then (X9_has N (gi σ13 154 (32 : Int32).toNatClampNeg) v1 σ13).bind fun r16 => ((X9_flag N r16 σ13).bind fun r18 => ((X9_enters N r18.toInt64 σ13).bind fun r20 => (if inb (16 + v1) 37 = true then (X9_enters N ((gi r20 154 (16 + v1).toNatClampNeg).toInt64) r20).bind fun r23 => (if inb (8 + v1) 37 = true then some (gi r23 154 (8 + v1).toNatClampNeg, r23) else none) else none))) else none))))))
set_option maxRecDepth 100000 in
set_option maxHeartbeats 4000000 in
theorem X9_height_ok {E : Ev}  {N : Nat} {v1 : Int32} {v2 : Int32} {σ : Sg} {r : Int32 × Sg} (h : X9_height N  v1 v2 σ = some r) : Cm E (9) yX9_height cX9_height 3 (some .int) [.ref 149, .int v1, .int v2] SH0 SH0 σ r.2 (some (.int r.1)) 0 0 := by
  refine Cm.intro (by decide +kernel) (Nat.le_of_ble_eq_true rfl) (fun _ h => by obtain ⟨_, _, _, _, _, _, h⟩ := h; exact h) (fun Z C hE => ?_)
  show Wm E Z 0 0 SH0 σ 0 [(0, .ref 149), (1, .int v1), (2, .int v2)] []
  unfold X9_height at h
  refine r_aload_n (pc' := 1) C dX9_height_0 rfl 0 rfl ?_
  refine r_iconst (pc' := 2) C dX9_height_1 rfl kc_0 ?_
  obtain ⟨σ1, e2, h⟩ := bs h
  refine r_putI (pc' := 5) (σ1 := σ1) C fpX9_3 sh_149 rfl rfl rfl dX9_height_2 rfl e2 ?_
  refine r_aload_n (pc' := 6) C dX9_height_5 rfl 0 rfl ?_
  refine r_iload_n (pc' := 7) C dX9_height_6 rfl 1 rfl ?_
  obtain ⟨r3, e4, h⟩ := bd h
  refine r_cV1 (pc' := 10) C (X9_isThing_ok  e4) mlX9_123 ceX9_isThing cvX9_isThing sh_149 rfl rfl rfl (Nat.le_of_ble_eq_true rfl) rfl (Nat.le_of_ble_eq_true rfl) dX9_height_7 rfl (kk := ?_)
  refine r_if_eq (tgt := 25) (pc' := 13) C dX9_height_10 rfl rfl (fun c5 => ?_) (fun c5 => ?_)
  · rw [if_pos c5] at h
    refine r_iconst (pc' := 26) C dX9_height_25 rfl kc_m1 ?_
    have h := Option.some.inj h
    subst h
    exact r_ret C rfl dX9_height_26 hE
  · rw [if_neg c5] at h
    refine r_iload_n (pc' := 14) C dX9_height_13 rfl 2 rfl ?_
    refine r_i2l (pc' := 15) C dX9_height_14 rfl rfl ?_
    refine r_lconst (pc' := 16) C dX9_height_15 rfl kl_0 ?_
    refine r_ldc2 (pc' := 19) C cnX9_346 dX9_height_16 rfl ?_
    obtain ⟨r6, e7, h⟩ := bd h
    refine r_cS1 (pc' := 22) C (X9_in_ok  e7) mlX9_119 ceX9_in csX9_in rfl (Nat.le_of_ble_eq_true rfl) rfl (Nat.le_of_ble_eq_true rfl) dX9_height_19 rfl (kk := ?_)
    refine r_if_ne (tgt := 27) (pc' := 25) C dX9_height_22 rfl rfl (fun c8 => ?_) (fun c8 => ?_)
    · rw [if_neg c8] at h
      refine r_aload_n (pc' := 28) C dX9_height_27 rfl 0 rfl ?_
      obtain ⟨r9, e10, h⟩ := bd h
      refine r_cV0 (pc' := 31) C (X9_copies_ok  e10) mlX9_362 ceX9_copies cvX9_copies sh_149 rfl rfl rfl (Nat.le_of_ble_eq_true rfl) rfl (Nat.le_of_ble_eq_true rfl) dX9_height_28 rfl (kk := ?_)
      refine r_aload_n (pc' := 32) C dX9_height_31 rfl 0 rfl ?_
      refine r_aload_n (pc' := 33) C dX9_height_32 rfl 0 rfl ?_
      refine r_getR (pc' := 36) C flX9_37 sh_149 rfl dX9_height_33 rfl ?_
      refine r_iload_n (pc' := 37) C dX9_height_36 rfl 2 rfl ?_
      obtain ⟨r11, e12, h⟩ := bd h
      refine r_cV0 (pc' := 40) C (X9_goesOn_ok mac_154 e12) mlX9_324 ceX9_goesOn cvX9_goesOn sh_149 rfl rfl rfl (Nat.le_of_ble_eq_true rfl) rfl (Nat.le_of_ble_eq_true rfl) dX9_height_37 rfl (kk := ?_)
      refine r_aload_n (pc' := 41) C dX9_height_40 rfl 0 rfl ?_
      refine r_iconst (pc' := 42) C dX9_height_41 rfl kc_0 ?_
      obtain ⟨σ13, e14, h⟩ := bs h
      refine r_putI (pc' := 45) (σ1 := σ13) C fpX9_15 sh_149 rfl rfl rfl dX9_height_42 rfl e14 ?_
      refine r_aload_n (pc' := 46) C dX9_height_45 rfl 0 rfl ?_
      refine r_aload_n (pc' := 47) C dX9_height_46 rfl 0 rfl ?_
      refine r_getR (pc' := 50) C flX9_37 sh_149 rfl dX9_height_47 rfl ?_
      refine r_bipush (pc' := 52) C dX9_height_50 rfl kb_32 ?_
      obtain ⟨q15, h⟩ := ck h
      refine r_iald (pc' := 53) C sh_154 (vin q15) dX9_height_52 rfl ?_
      refine r_iload_n (pc' := 54) C dX9_height_53 rfl 1 rfl ?_
      obtain ⟨r16, e17, h⟩ := bd h
      refine r_cS1 (pc' := 57) C (X9_has_ok  e17) mlX9_127 ceX9_has csX9_has rfl (Nat.le_of_ble_eq_true rfl) rfl (Nat.le_of_ble_eq_true rfl) dX9_height_54 rfl (kk := ?_)
      obtain ⟨r18, e19, h⟩ := bd h
      refine r_cS1 (pc' := 60) C (X9_flag_ok  e19) mlX9_159 ceX9_flag csX9_flag rfl (Nat.le_of_ble_eq_true rfl) rfl (Nat.le_of_ble_eq_true rfl) dX9_height_57 rfl (kk := ?_)
      refine r_i2l (pc' := 61) C dX9_height_60 rfl rfl ?_
      obtain ⟨r20, e21, h⟩ := bd h
      refine r_cV0 (pc' := 64) C (X9_enters_ok  e21) mlX9_327 ceX9_enters cvX9_enters sh_149 rfl rfl rfl (Nat.le_of_ble_eq_true rfl) rfl (Nat.le_of_ble_eq_true rfl) dX9_height_61 rfl (kk := ?_)
      refine r_aload_n (pc' := 65) C dX9_height_64 rfl 0 rfl ?_
      refine r_aload_n (pc' := 66) C dX9_height_65 rfl 0 rfl ?_
      refine r_getR (pc' := 69) C flX9_37 sh_149 rfl dX9_height_66 rfl ?_
      refine r_bipush (pc' := 71) C dX9_height_69 rfl kb_16 ?_
      refine r_iload_n (pc' := 72) C dX9_height_71 rfl 1 rfl ?_
      refine r_iadd (pc' := 73) C dX9_height_72 rfl ?_
      obtain ⟨q22, h⟩ := ck h
      refine r_iald (pc' := 74) C sh_154 (vin q22) dX9_height_73 rfl ?_
      refine r_i2l (pc' := 75) C dX9_height_74 rfl rfl ?_
      obtain ⟨r23, e24, h⟩ := bd h
      refine r_cV0 (pc' := 78) C (X9_enters_ok  e24) mlX9_327 ceX9_enters cvX9_enters sh_149 rfl rfl rfl (Nat.le_of_ble_eq_true rfl) rfl (Nat.le_of_ble_eq_true rfl) dX9_height_75 rfl (kk := ?_)
      refine r_aload_n (pc' := 79) C dX9_height_78 rfl 0 rfl ?_
      refine r_getR (pc' := 82) C flX9_37 sh_149 rfl dX9_height_79 rfl ?_
      refine r_bipush (pc' := 84) C dX9_height_82 rfl kb_8 ?_
      refine r_iload_n (pc' := 85) C dX9_height_84 rfl 1 rfl ?_
      refine r_iadd (pc' := 86) C dX9_height_85 rfl ?_
      obtain ⟨q25, h⟩ := ck h
      refine r_iald (pc' := 87) C sh_154 (vin q25) dX9_height_86 rfl ?_
      have h := Option.some.inj h
      subst h
      exact r_ret C rfl dX9_height_87 hE
    · rw [if_pos c8] at h
      refine r_iconst (pc' := 26) C dX9_height_25 rfl kc_m1 ?_
      have h := Option.some.inj h
      subst h
      exact r_ret C rfl dX9_height_26 hE

/-! BorrowedWeightModel.gone(I)I -/
def X9_gone_l21 (N : Nat)  (k41 : Int32 → Sg → Option (Int32 × Sg))  : Nat → Int32 → Int32 → Sg → Option (Int32 × Sg)
  | 0, _, _, _ => none
  | n + 1, v1, v2, σ =>
    if 99 < v2 then (some ((-2), σ)) else (if inb 32 37 = true then (X9_has N (gi σ 154 (32 : Int32).toNatClampNeg) v1 σ).bind fun r10 => (if r10 = 0 then ((X9_hourGoes N 154 σ).bind fun r13 => (X9_gone_l21 N k41 n v1 (v2 + 1) r13)) else (k41 v2 σ)) else none)
set_option maxRecDepth 100000 in
set_option maxHeartbeats 4000000 in
theorem X9_gone_l21_ok {E : Ev}  {N : Nat} {k41 : Int32 → Sg → Option (Int32 × Sg)}  (hk41 : ∀ (v2 : Int32) (σ : Sg) (r : Int32 × Sg), k41 v2 σ = some r → Gp E RX9 cX9_gone (some .int) 3 (8) SH0 r.2 (some (.int r.1)) σ 41 [(0, .ref 149), (2, .int v2)] []) : ∀ (n : Nat) (v1 : Int32) (v2 : Int32) (σ : Sg) (r : Int32 × Sg), X9_gone_l21 N k41 n v1 v2 σ = some r → Gp E RX9 cX9_gone (some .int) 3 (8) SH0 r.2 (some (.int r.1)) σ 21 [(0, .ref 149), (1, .int v1), (2, .int v2)] [] := by
  intro n
  induction n with
  | zero => intro v1 v2 σ r h; cases h
  | succ n ih =>
    intro v1 v2 σ r h Z C hE
    unfold X9_gone_l21 at h
    refine r_iload_n (pc' := 22) C dX9_gone_21 rfl 2 rfl ?_
    refine r_bipush (pc' := 24) C dX9_gone_22 rfl kb_99 ?_
    refine r_icmp_gt (tgt := 79) (pc' := 27) C dX9_gone_24 rfl rfl (fun c8 => ?_) (fun c8 => ?_)
    · rw [if_pos c8] at h
      refine r_bipush (pc' := 81) C dX9_gone_79 rfl kb_m2 ?_
      have h := Option.some.inj h
      subst h
      exact r_ret C rfl dX9_gone_81 hE
    · rw [if_neg c8] at h
      refine r_aload_n (pc' := 28) C dX9_gone_27 rfl 0 rfl ?_
      refine r_getR (pc' := 31) C flX9_37 sh_149 rfl dX9_gone_28 rfl ?_
      refine r_bipush (pc' := 33) C dX9_gone_31 rfl kb_32 ?_
      obtain ⟨q9, h⟩ := ck h
      refine r_iald (pc' := 34) C sh_154 (vin q9) dX9_gone_33 rfl ?_
      refine r_iload_n (pc' := 35) C dX9_gone_34 rfl 1 rfl ?_
      obtain ⟨r10, e11, h⟩ := bd h
      refine r_cS1 (pc' := 38) C (X9_has_ok  e11) mlX9_127 ceX9_has csX9_has rfl (Nat.le_of_ble_eq_true rfl) rfl (Nat.le_of_ble_eq_true rfl) dX9_gone_35 rfl (kk := ?_)
      refine r_if_eq (tgt := 65) (pc' := 41) C dX9_gone_38 rfl rfl (fun c12 => ?_) (fun c12 => ?_)
      · rw [if_pos c12] at h
        refine r_aload_n (pc' := 66) C dX9_gone_65 rfl 0 rfl ?_
        refine r_aload_n (pc' := 67) C dX9_gone_66 rfl 0 rfl ?_
        refine r_getR (pc' := 70) C flX9_37 sh_149 rfl dX9_gone_67 rfl ?_
        obtain ⟨r13, e14, h⟩ := bd h
        refine r_cV0 (pc' := 73) C (X9_hourGoes_ok mac_154 e14) mlX9_313 ceX9_hourGoes cvX9_hourGoes sh_149 rfl rfl rfl (Nat.le_of_ble_eq_true rfl) rfl (Nat.le_of_ble_eq_true rfl) dX9_gone_70 rfl (kk := ?_)
        refine r_iinc (pc' := 76) (v := v2 + 1) (lv2 := [(2, .int (v2 + 1)), (0, .ref 149), (1, .int v1)]) C dX9_gone_73 rfl 2 rfl rfl (Nat.le_of_ble_eq_true rfl) rfl ?_
        refine r_goto (tgt := 21) C dX9_gone_76 rfl ?_
        refine r_sub [1, 2, 0] rfl ?_
        exact ih _ _ _ _ h Z C hE
      · rw [if_neg c12] at h
        refine r_sub [0, 2] rfl ?_
        exact hk41 _ _ _ h Z C hE
def X9_gone_j41 (N : Nat)   (v2 : Int32) (σ : Sg) : Option (Int32 × Sg) :=
  bnS (wi σ 149 1 0) fun σ15 => if inb 32 37 = true then (J6_bitCount_0f7a4 N (gi σ15 154 (32 : Int32).toNatClampNeg) σ15).bind fun r18 => ((X9_enters N ((r18 - 1).toInt64) σ15).bind fun r20 => (some (v2, r20))) else none
set_option maxRecDepth 100000 in
set_option maxHeartbeats 4000000 in
theorem X9_gone_j41_ok {E : Ev}  {N : Nat}    {v2 : Int32} {σ : Sg} {r : Int32 × Sg} (h : X9_gone_j41 N   v2 σ = some r) : Gp E RX9 cX9_gone (some .int) 3 (8) SH0 r.2 (some (.int r.1)) σ 41 [(0, .ref 149), (2, .int v2)] [] := by
  intro Z C hE
  unfold X9_gone_j41 at h
  refine r_aload_n (pc' := 42) C dX9_gone_41 rfl 0 rfl ?_
  refine r_iconst (pc' := 43) C dX9_gone_42 rfl kc_0 ?_
  obtain ⟨σ15, e16, h⟩ := bs h
  refine r_putI (pc' := 46) (σ1 := σ15) C fpX9_15 sh_149 rfl rfl rfl dX9_gone_43 rfl e16 ?_
  refine r_aload_n (pc' := 47) C dX9_gone_46 rfl 0 rfl ?_
  refine r_aload_n (pc' := 48) C dX9_gone_47 rfl 0 rfl ?_
  refine r_getR (pc' := 51) C flX9_37 sh_149 rfl dX9_gone_48 rfl ?_
  refine r_bipush (pc' := 53) C dX9_gone_51 rfl kb_32 ?_
  obtain ⟨q17, h⟩ := ck h
  refine r_iald (pc' := 54) C sh_154 (vin q17) dX9_gone_53 rfl ?_
  obtain ⟨r18, e19, h⟩ := bd h
  refine r_cS1 (pc' := 57) C (J6_bitCount_0f7a4_ok  e19) mlX9_135 ceJ6_bitCount_0f7a4 csJ6_bitCount_0f7a4 rfl (Nat.le_of_ble_eq_true rfl) rfl (Nat.le_of_ble_eq_true rfl) dX9_gone_54 rfl (kk := ?_)
  refine r_iconst (pc' := 58) C dX9_gone_57 rfl kc_1 ?_
  refine r_isub (pc' := 59) C dX9_gone_58 rfl ?_
  refine r_i2l (pc' := 60) C dX9_gone_59 rfl rfl ?_
  obtain ⟨r20, e21, h⟩ := bd h
  refine r_cV0 (pc' := 63) C (X9_enters_ok  e21) mlX9_327 ceX9_enters cvX9_enters sh_149 rfl rfl rfl (Nat.le_of_ble_eq_true rfl) rfl (Nat.le_of_ble_eq_true rfl) dX9_gone_60 rfl (kk := ?_)
  refine r_iload_n (pc' := 64) C dX9_gone_63 rfl 1 rfl ?_
  have h := Option.some.inj h
  subst h
  exact r_ret C rfl dX9_gone_64 hE
def X9_gone (N : Nat)  (v1 : Int32) (σ : Sg) : Option (Int32 × Sg) :=
  bnS (wi σ 149 0 0) fun σ1 => (X9_isThing N v1 σ1).bind fun r3 => (if r3 = 0 then (some ((-1), σ1)) else ((X9_copies N σ1).bind fun r6 => (X9_gone_l21 N (fun v2 σ => X9_gone_j41 N v2 σ) N v1 0 r6)))
set_option maxRecDepth 100000 in
set_option maxHeartbeats 4000000 in
theorem X9_gone_ok {E : Ev}  {N : Nat} {v1 : Int32} {σ : Sg} {r : Int32 × Sg} (h : X9_gone N  v1 σ = some r) : Cm E (8) yX9_gone cX9_gone 3 (some .int) [.ref 149, .int v1] SH0 SH0 σ r.2 (some (.int r.1)) 0 0 := by
  refine Cm.intro (by decide +kernel) (Nat.le_of_ble_eq_true rfl) (fun _ h => by obtain ⟨_, _, _, _, _, _, h⟩ := h; exact h) (fun Z C hE => ?_)
  show Wm E Z 0 0 SH0 σ 0 [(0, .ref 149), (1, .int v1)] []
  unfold X9_gone at h
  refine r_aload_n (pc' := 1) C dX9_gone_0 rfl 0 rfl ?_
  refine r_iconst (pc' := 2) C dX9_gone_1 rfl kc_0 ?_
  obtain ⟨σ1, e2, h⟩ := bs h
  refine r_putI (pc' := 5) (σ1 := σ1) C fpX9_3 sh_149 rfl rfl rfl dX9_gone_2 rfl e2 ?_
  refine r_aload_n (pc' := 6) C dX9_gone_5 rfl 0 rfl ?_
  refine r_iload_n (pc' := 7) C dX9_gone_6 rfl 1 rfl ?_
  obtain ⟨r3, e4, h⟩ := bd h
  refine r_cV1 (pc' := 10) C (X9_isThing_ok  e4) mlX9_123 ceX9_isThing cvX9_isThing sh_149 rfl rfl rfl (Nat.le_of_ble_eq_true rfl) rfl (Nat.le_of_ble_eq_true rfl) dX9_gone_7 rfl (kk := ?_)
  refine r_if_ne (tgt := 15) (pc' := 13) C dX9_gone_10 rfl rfl (fun c5 => ?_) (fun c5 => ?_)
  · rw [if_neg c5] at h
    refine r_aload_n (pc' := 16) C dX9_gone_15 rfl 0 rfl ?_
    obtain ⟨r6, e7, h⟩ := bd h
    refine r_cV0 (pc' := 19) C (X9_copies_ok  e7) mlX9_362 ceX9_copies cvX9_copies sh_149 rfl rfl rfl (Nat.le_of_ble_eq_true rfl) rfl (Nat.le_of_ble_eq_true rfl) dX9_gone_16 rfl (kk := ?_)
    refine r_iconst (pc' := 20) C dX9_gone_19 rfl kc_0 ?_
    refine r_istore_n (pc' := 21) (lv2 := [(2, .int 0), (0, .ref 149), (1, .int v1)]) C dX9_gone_20 rfl rfl (Nat.le_of_ble_eq_true rfl) rfl ?_
    refine r_sub [1, 2, 0] rfl ?_
    exact X9_gone_l21_ok  (fun _ _ _ h Z C hE => by exact X9_gone_j41_ok  h Z C hE) N _ _ _ _ h Z C hE
  · rw [if_pos c5] at h
    refine r_iconst (pc' := 14) C dX9_gone_13 rfl kc_m1 ?_
    have h := Option.some.inj h
    subst h
    exact r_ret C rfl dX9_gone_14 hE

/-! BorrowedWeightModel.ahead(I)I -/
def X9_ahead_l39 (N : Nat)  (k64 : Sg → Option (Int32 × Sg))  : Nat → Int32 → Sg → Option (Int32 × Sg)
  | 0, _, _ => none
  | n + 1, v2, σ =>
    if (gi σ 149 3) ≤ v2 then (k64 σ) else (if inb v2 37 = true then (X9_enters N ((gi σ 154 v2.toNatClampNeg).toInt64) σ).bind fun r14 => (X9_ahead_l39 N k64 n (v2 + 1) r14) else none)
set_option maxRecDepth 100000 in
set_option maxHeartbeats 4000000 in
theorem X9_ahead_l39_ok {E : Ev}  {N : Nat} {k64 : Sg → Option (Int32 × Sg)}  (hk64 : ∀ (σ : Sg) (r : Int32 × Sg), k64 σ = some r → Gp E RX9 cX9_ahead (some .int) 3 (9) SH0 r.2 (some (.int r.1)) σ 64 [(0, .ref 149)] []) : ∀ (n : Nat) (v2 : Int32) (σ : Sg) (r : Int32 × Sg), X9_ahead_l39 N k64 n v2 σ = some r → Gp E RX9 cX9_ahead (some .int) 3 (9) SH0 r.2 (some (.int r.1)) σ 39 [(0, .ref 149), (2, .int v2)] [] := by
  intro n
  induction n with
  | zero => intro v2 σ r h; cases h
  | succ n ih =>
    intro v2 σ r h Z C hE
    unfold X9_ahead_l39 at h
    refine r_iload_n (pc' := 40) C dX9_ahead_39 rfl 1 rfl ?_
    refine r_aload_n (pc' := 41) C dX9_ahead_40 rfl 0 rfl ?_
    refine r_getI (pc' := 44) C flX9_116 sh_149 rfl dX9_ahead_41 rfl ?_
    refine r_icmp_ge (tgt := 64) (pc' := 47) C dX9_ahead_44 rfl rfl (fun c12 => ?_) (fun c12 => ?_)
    · rw [if_pos c12] at h
      refine r_sub [0] rfl ?_
      exact hk64 _ _ h Z C hE
    · rw [if_neg c12] at h
      refine r_aload_n (pc' := 48) C dX9_ahead_47 rfl 0 rfl ?_
      refine r_aload_n (pc' := 49) C dX9_ahead_48 rfl 0 rfl ?_
      refine r_getR (pc' := 52) C flX9_37 sh_149 rfl dX9_ahead_49 rfl ?_
      refine r_iload_n (pc' := 53) C dX9_ahead_52 rfl 1 rfl ?_
      obtain ⟨q13, h⟩ := ck h
      refine r_iald (pc' := 54) C sh_154 (vin q13) dX9_ahead_53 rfl ?_
      refine r_i2l (pc' := 55) C dX9_ahead_54 rfl rfl ?_
      obtain ⟨r14, e15, h⟩ := bd h
      refine r_cV0 (pc' := 58) C (X9_enters_ok  e15) mlX9_327 ceX9_enters cvX9_enters sh_149 rfl rfl rfl (Nat.le_of_ble_eq_true rfl) rfl (Nat.le_of_ble_eq_true rfl) dX9_ahead_55 rfl (kk := ?_)
      refine r_iinc (pc' := 61) (v := v2 + 1) (lv2 := [(2, .int (v2 + 1)), (0, .ref 149)]) C dX9_ahead_58 rfl 1 rfl rfl (Nat.le_of_ble_eq_true rfl) rfl ?_
      refine r_goto (tgt := 39) C dX9_ahead_61 rfl ?_
      refine r_sub [1, 0] rfl ?_
      exact ih _ _ _ h Z C hE
def X9_ahead_j64 (N : Nat)    (σ : Sg) : Option (Int32 × Sg) :=
  (X9_all N σ).bind fun r16 => ((X9_sumOf N 154 0 r16 σ).bind fun r18 => (some (r18, σ)))
set_option maxRecDepth 100000 in
set_option maxHeartbeats 4000000 in
theorem X9_ahead_j64_ok {E : Ev}  {N : Nat}     {σ : Sg} {r : Int32 × Sg} (h : X9_ahead_j64 N    σ = some r) : Gp E RX9 cX9_ahead (some .int) 3 (9) SH0 r.2 (some (.int r.1)) σ 64 [(0, .ref 149)] [] := by
  intro Z C hE
  unfold X9_ahead_j64 at h
  refine r_aload_n (pc' := 65) C dX9_ahead_64 rfl 0 rfl ?_
  refine r_aload_n (pc' := 66) C dX9_ahead_65 rfl 0 rfl ?_
  refine r_getR (pc' := 69) C flX9_37 sh_149 rfl dX9_ahead_66 rfl ?_
  refine r_iconst (pc' := 70) C dX9_ahead_69 rfl kc_0 ?_
  refine r_aload_n (pc' := 71) C dX9_ahead_70 rfl 0 rfl ?_
  obtain ⟨r16, e17, h⟩ := bd h
  refine r_cV1 (pc' := 74) C (X9_all_ok  e17) mlX9_131 ceX9_all cvX9_all sh_149 rfl rfl rfl (Nat.le_of_ble_eq_true rfl) rfl (Nat.le_of_ble_eq_true rfl) dX9_ahead_71 rfl (kk := ?_)
  obtain ⟨r18, e19, h⟩ := bd h
  refine r_cV1 (pc' := 77) C (X9_sumOf_ok mac_154 e19) mlX9_274 ceX9_sumOf cvX9_sumOf sh_149 rfl rfl rfl (Nat.le_of_ble_eq_true rfl) rfl (Nat.le_of_ble_eq_true rfl) dX9_ahead_74 rfl (kk := ?_)
  have h := Option.some.inj h
  subst h
  exact r_ret C rfl dX9_ahead_77 hE
def X9_ahead (N : Nat)  (v1 : Int32) (σ : Sg) : Option (Int32 × Sg) :=
  bnS (wi σ 149 0 0) fun σ1 => (X9_in N v1.toInt64 0 99 σ1).bind fun r3 => (if r3 = 0 then (some ((-1), σ1)) else ((X9_copies N σ1).bind fun r6 => ((X9_goesOn N 154 v1 r6).bind fun r8 => (bnS (wi r8 149 1 0) fun σ10 => X9_ahead_l39 N (fun σ => X9_ahead_j64 N σ) N 0 σ10))))
set_option maxRecDepth 100000 in
set_option maxHeartbeats 4000000 in
theorem X9_ahead_ok {E : Ev}  {N : Nat} {v1 : Int32} {σ : Sg} {r : Int32 × Sg} (h : X9_ahead N  v1 σ = some r) : Cm E (9) yX9_ahead cX9_ahead 3 (some .int) [.ref 149, .int v1] SH0 SH0 σ r.2 (some (.int r.1)) 0 0 := by
  refine Cm.intro (by decide +kernel) (Nat.le_of_ble_eq_true rfl) (fun _ h => by obtain ⟨_, _, _, _, _, _, h⟩ := h; exact h) (fun Z C hE => ?_)
  show Wm E Z 0 0 SH0 σ 0 [(0, .ref 149), (1, .int v1)] []
  unfold X9_ahead at h
  refine r_aload_n (pc' := 1) C dX9_ahead_0 rfl 0 rfl ?_
  refine r_iconst (pc' := 2) C dX9_ahead_1 rfl kc_0 ?_
  obtain ⟨σ1, e2, h⟩ := bs h
  refine r_putI (pc' := 5) (σ1 := σ1) C fpX9_3 sh_149 rfl rfl rfl dX9_ahead_2 rfl e2 ?_
  refine r_iload_n (pc' := 6) C dX9_ahead_5 rfl 1 rfl ?_
  refine r_i2l (pc' := 7) C dX9_ahead_6 rfl rfl ?_
  refine r_lconst (pc' := 8) C dX9_ahead_7 rfl kl_0 ?_
  refine r_ldc2 (pc' := 11) C cnX9_346 dX9_ahead_8 rfl ?_
  obtain ⟨r3, e4, h⟩ := bd h
  refine r_cS1 (pc' := 14) C (X9_in_ok  e4) mlX9_119 ceX9_in csX9_in rfl (Nat.le_of_ble_eq_true rfl) rfl (Nat.le_of_ble_eq_true rfl) dX9_ahead_11 rfl (kk := ?_)
  refine r_if_ne (tgt := 19) (pc' := 17) C dX9_ahead_14 rfl rfl (fun c5 => ?_) (fun c5 => ?_)
  · rw [if_neg c5] at h
    refine r_aload_n (pc' := 20) C dX9_ahead_19 rfl 0 rfl ?_
    obtain ⟨r6, e7, h⟩ := bd h
    refine r_cV0 (pc' := 23) C (X9_copies_ok  e7) mlX9_362 ceX9_copies cvX9_copies sh_149 rfl rfl rfl (Nat.le_of_ble_eq_true rfl) rfl (Nat.le_of_ble_eq_true rfl) dX9_ahead_20 rfl (kk := ?_)
    refine r_aload_n (pc' := 24) C dX9_ahead_23 rfl 0 rfl ?_
    refine r_aload_n (pc' := 25) C dX9_ahead_24 rfl 0 rfl ?_
    refine r_getR (pc' := 28) C flX9_37 sh_149 rfl dX9_ahead_25 rfl ?_
    refine r_iload_n (pc' := 29) C dX9_ahead_28 rfl 1 rfl ?_
    obtain ⟨r8, e9, h⟩ := bd h
    refine r_cV0 (pc' := 32) C (X9_goesOn_ok mac_154 e9) mlX9_324 ceX9_goesOn cvX9_goesOn sh_149 rfl rfl rfl (Nat.le_of_ble_eq_true rfl) rfl (Nat.le_of_ble_eq_true rfl) dX9_ahead_29 rfl (kk := ?_)
    refine r_aload_n (pc' := 33) C dX9_ahead_32 rfl 0 rfl ?_
    refine r_iconst (pc' := 34) C dX9_ahead_33 rfl kc_0 ?_
    obtain ⟨σ10, e11, h⟩ := bs h
    refine r_putI (pc' := 37) (σ1 := σ10) C fpX9_15 sh_149 rfl rfl rfl dX9_ahead_34 rfl e11 ?_
    refine r_iconst (pc' := 38) C dX9_ahead_37 rfl kc_0 ?_
    refine r_istore_n (pc' := 39) (lv2 := [(2, .int 0), (0, .ref 149), (1, .int v1)]) C dX9_ahead_38 rfl rfl (Nat.le_of_ble_eq_true rfl) rfl ?_
    refine r_sub [1, 0] rfl ?_
    exact X9_ahead_l39_ok  (fun _ _ h Z C hE => by exact X9_ahead_j64_ok  h Z C hE) N _ _ _ h Z C hE
  · rw [if_pos c5] at h
    refine r_iconst (pc' := 18) C dX9_ahead_17 rfl kc_m1 ?_
    have h := Option.some.inj h
    subst h
    exact r_ret C rfl dX9_ahead_18 hE

/-! BorrowedWeightModel.least(I)I -/
def X9_least_j134 (N : Nat)  (kr : Int32 → Int32 → Int32 → Int32 → Int32 → Int32 → Sg → Option (Int32 × Sg)) (v1 : Int32) (v2 : Int32) (v4 : Int32) (v5 : Int32) (v6 : Int32) (v7 : Int32) (v8 : Int32) (s0 : Int32) (s1 : Int32) (σ : Sg) : Option (Int32 × Sg) :=
  (X9_flag N v8 σ).bind fun r20 => (if v8 = 0 then (kr v1 v2 (s1 + s0) (v4 + r20) (v5 ||| 0) (v6 + 1) σ) else (kr v1 v2 (s1 + s0) (v4 + r20) (v5 ||| v7) (v6 + 1) σ))
set_option maxRecDepth 100000 in
set_option maxHeartbeats 4000000 in
theorem X9_least_j134_ok {E : Ev}  {N : Nat} {kr : Int32 → Int32 → Int32 → Int32 → Int32 → Int32 → Sg → Option (Int32 × Sg)}  (hkr : ∀ (v1 : Int32) (v2 : Int32) (v3 : Int32) (v4 : Int32) (v5 : Int32) (v6 : Int32) (σ : Sg) (r : Int32 × Sg), kr v1 v2 v3 v4 v5 v6 σ = some r → Gp E RX9 cX9_least (some .int) 9 (7) SH0 r.2 (some (.int r.1)) σ 65 [(0, .ref 149), (1, .int v1), (2, .int v2), (3, .int v3), (4, .int v4), (5, .int v5), (6, .int v6)] []) {v1 : Int32} {v2 : Int32} {v4 : Int32} {v5 : Int32} {v6 : Int32} {v7 : Int32} {v8 : Int32} {s0 : Int32} {s1 : Int32} {σ : Sg} {r : Int32 × Sg} (h : X9_least_j134 N  kr v1 v2 v4 v5 v6 v7 v8 s0 s1 σ = some r) : Gp E RX9 cX9_least (some .int) 9 (7) SH0 r.2 (some (.int r.1)) σ 134 [(0, .ref 149), (1, .int v1), (2, .int v2), (4, .int v4), (5, .int v5), (6, .int v6), (7, .int v7), (8, .int v8)] [.int s0, .int s1] := by
  intro Z C hE
  unfold X9_least_j134 at h
  refine r_iadd (pc' := 135) C dX9_least_134 rfl ?_
  refine r_istore_n (pc' := 136) (lv2 := [(3, .int (s1 + s0)), (0, .ref 149), (1, .int v1), (2, .int v2), (4, .int v4), (5, .int v5), (6, .int v6), (7, .int v7), (8, .int v8)]) C dX9_least_135 rfl rfl (Nat.le_of_ble_eq_true rfl) rfl ?_
  refine r_iload (pc' := 138) C dX9_least_136 rfl 4 rfl ?_
  refine r_iload (pc' := 140) C dX9_least_138 rfl 8 rfl ?_
  obtain ⟨r20, e21, h⟩ := bd h
  refine r_cS1 (pc' := 143) C (X9_flag_ok  e21) mlX9_159 ceX9_flag csX9_flag rfl (Nat.le_of_ble_eq_true rfl) rfl (Nat.le_of_ble_eq_true rfl) dX9_least_140 rfl (kk := ?_)
  refine r_iadd (pc' := 144) C dX9_least_143 rfl ?_
  refine r_istore (pc' := 146) (lv2 := [(4, .int (v4 + r20)), (3, .int (s1 + s0)), (0, .ref 149), (1, .int v1), (2, .int v2), (5, .int v5), (6, .int v6), (7, .int v7), (8, .int v8)]) C dX9_least_144 rfl (Nat.le_of_ble_eq_true rfl) rfl ?_
  refine r_iload (pc' := 148) C dX9_least_146 rfl 5 rfl ?_
  refine r_iload (pc' := 150) C dX9_least_148 rfl 8 rfl ?_
  refine r_if_eq (tgt := 158) (pc' := 153) C dX9_least_150 rfl rfl (fun c22 => ?_) (fun c22 => ?_)
  · rw [if_pos c22] at h
    refine r_iconst (pc' := 159) C dX9_least_158 rfl kc_0 ?_
    refine r_ior (pc' := 160) C dX9_least_159 rfl ?_
    refine r_istore (pc' := 162) (lv2 := [(5, .int (v5 ||| 0)), (4, .int (v4 + r20)), (3, .int (s1 + s0)), (0, .ref 149), (1, .int v1), (2, .int v2), (6, .int v6), (7, .int v7), (8, .int v8)]) C dX9_least_160 rfl (Nat.le_of_ble_eq_true rfl) rfl ?_
    refine r_iinc (pc' := 165) (v := v6 + 1) (lv2 := [(6, .int (v6 + 1)), (5, .int (v5 ||| 0)), (4, .int (v4 + r20)), (3, .int (s1 + s0)), (0, .ref 149), (1, .int v1), (2, .int v2), (7, .int v7), (8, .int v8)]) C dX9_least_162 rfl 6 rfl rfl (Nat.le_of_ble_eq_true rfl) rfl ?_
    refine r_goto (tgt := 65) C dX9_least_165 rfl ?_
    refine r_sub [4, 5, 6, 3, 2, 1, 0] rfl ?_
    exact hkr _ _ _ _ _ _ _ _ h Z C hE
  · rw [if_neg c22] at h
    refine r_iload (pc' := 155) C dX9_least_153 rfl 7 rfl ?_
    refine r_goto (tgt := 159) C dX9_least_155 rfl ?_
    refine r_ior (pc' := 160) C dX9_least_159 rfl ?_
    refine r_istore (pc' := 162) (lv2 := [(5, .int (v5 ||| v7)), (4, .int (v4 + r20)), (3, .int (s1 + s0)), (0, .ref 149), (1, .int v1), (2, .int v2), (6, .int v6), (7, .int v7), (8, .int v8)]) C dX9_least_160 rfl (Nat.le_of_ble_eq_true rfl) rfl ?_
    refine r_iinc (pc' := 165) (v := v6 + 1) (lv2 := [(6, .int (v6 + 1)), (5, .int (v5 ||| v7)), (4, .int (v4 + r20)), (3, .int (s1 + s0)), (0, .ref 149), (1, .int v1), (2, .int v2), (7, .int v7), (8, .int v8)]) C dX9_least_162 rfl 6 rfl rfl (Nat.le_of_ble_eq_true rfl) rfl ?_
    refine r_goto (tgt := 65) C dX9_least_165 rfl ?_
    refine r_sub [4, 5, 6, 3, 2, 1, 0] rfl ?_
    exact hkr _ _ _ _ _ _ _ _ h Z C hE
def X9_least_j111 (N : Nat)  (kr : Int32 → Int32 → Int32 → Int32 → Int32 → Int32 → Sg → Option (Int32 × Sg)) (v1 : Int32) (v2 : Int32) (v3 : Int32) (v4 : Int32) (v5 : Int32) (v6 : Int32) (v7 : Int32) (s0 : Int32) (σ : Sg) : Option (Int32 × Sg) :=
  if s0 = 0 then (X9_least_j134 N kr v1 v2 v4 v5 v6 v7 s0 0 v3 σ) else ((X9_above N 153 v7 σ).bind fun r23 => (X9_least_j134 N kr v1 v2 v4 v5 v6 v7 s0 (-r23.1) v3 r23.2))
set_option maxRecDepth 100000 in
set_option maxHeartbeats 4000000 in
theorem X9_least_j111_ok {E : Ev}  {N : Nat} {kr : Int32 → Int32 → Int32 → Int32 → Int32 → Int32 → Sg → Option (Int32 × Sg)}  (hkr : ∀ (v1 : Int32) (v2 : Int32) (v3 : Int32) (v4 : Int32) (v5 : Int32) (v6 : Int32) (σ : Sg) (r : Int32 × Sg), kr v1 v2 v3 v4 v5 v6 σ = some r → Gp E RX9 cX9_least (some .int) 9 (7) SH0 r.2 (some (.int r.1)) σ 65 [(0, .ref 149), (1, .int v1), (2, .int v2), (3, .int v3), (4, .int v4), (5, .int v5), (6, .int v6)] []) {v1 : Int32} {v2 : Int32} {v3 : Int32} {v4 : Int32} {v5 : Int32} {v6 : Int32} {v7 : Int32} {s0 : Int32} {σ : Sg} {r : Int32 × Sg} (h : X9_least_j111 N  kr v1 v2 v3 v4 v5 v6 v7 s0 σ = some r) : Gp E RX9 cX9_least (some .int) 9 (7) SH0 r.2 (some (.int r.1)) σ 111 [(0, .ref 149), (1, .int v1), (2, .int v2), (3, .int v3), (4, .int v4), (5, .int v5), (6, .int v6), (7, .int v7)] [.int s0] := by
  intro Z C hE
  unfold X9_least_j111 at h
  refine r_istore (pc' := 113) (lv2 := [(8, .int s0), (0, .ref 149), (1, .int v1), (2, .int v2), (3, .int v3), (4, .int v4), (5, .int v5), (6, .int v6), (7, .int v7)]) C dX9_least_111 rfl (Nat.le_of_ble_eq_true rfl) rfl ?_
  refine r_iload_n (pc' := 114) C dX9_least_113 rfl 4 rfl ?_
  refine r_iload (pc' := 116) C dX9_least_114 rfl 0 rfl ?_
  refine r_if_eq (tgt := 133) (pc' := 119) C dX9_least_116 rfl rfl (fun c19 => ?_) (fun c19 => ?_)
  · rw [if_pos c19] at h
    refine r_iconst (pc' := 134) C dX9_least_133 rfl kc_0 ?_
    refine r_sub [1, 2, 3, 5, 6, 7, 8, 0] rfl ?_
    exact X9_least_j134_ok  hkr h Z C hE
  · rw [if_neg c19] at h
    refine r_aload_n (pc' := 120) C dX9_least_119 rfl 1 rfl ?_
    refine r_aload_n (pc' := 121) C dX9_least_120 rfl 1 rfl ?_
    refine r_getR (pc' := 124) C flX9_34 sh_149 rfl dX9_least_121 rfl ?_
    refine r_iload (pc' := 126) C dX9_least_124 rfl 8 rfl ?_
    obtain ⟨r23, e24, h⟩ := bd h
    refine r_cV1 (pc' := 129) C (X9_above_ok mac_153 e24) mlX9_287 ceX9_above cvX9_above sh_149 rfl rfl rfl (Nat.le_of_ble_eq_true rfl) rfl (Nat.le_of_ble_eq_true rfl) dX9_least_126 rfl (kk := ?_)
    refine r_ineg (pc' := 130) C dX9_least_129 rfl ?_
    refine r_goto (tgt := 134) C dX9_least_130 rfl ?_
    refine r_sub [1, 2, 3, 5, 6, 7, 8, 0] rfl ?_
    exact X9_least_j134_ok  hkr h Z C hE
def X9_least_j97 (N : Nat)  (kr : Int32 → Int32 → Int32 → Int32 → Int32 → Int32 → Sg → Option (Int32 × Sg)) (v1 : Int32) (v2 : Int32) (v3 : Int32) (v4 : Int32) (v5 : Int32) (v6 : Int32) (s0 : Int32) (σ : Sg) : Option (Int32 × Sg) :=
  if (s0 &&& v1) = 0 then (X9_least_j111 N kr v1 v2 v3 v4 v5 v6 s0 0 σ) else (X9_least_j111 N kr v1 v2 v3 v4 v5 v6 s0 1 σ)
set_option maxRecDepth 100000 in
set_option maxHeartbeats 4000000 in
theorem X9_least_j97_ok {E : Ev}  {N : Nat} {kr : Int32 → Int32 → Int32 → Int32 → Int32 → Int32 → Sg → Option (Int32 × Sg)}  (hkr : ∀ (v1 : Int32) (v2 : Int32) (v3 : Int32) (v4 : Int32) (v5 : Int32) (v6 : Int32) (σ : Sg) (r : Int32 × Sg), kr v1 v2 v3 v4 v5 v6 σ = some r → Gp E RX9 cX9_least (some .int) 9 (7) SH0 r.2 (some (.int r.1)) σ 65 [(0, .ref 149), (1, .int v1), (2, .int v2), (3, .int v3), (4, .int v4), (5, .int v5), (6, .int v6)] []) {v1 : Int32} {v2 : Int32} {v3 : Int32} {v4 : Int32} {v5 : Int32} {v6 : Int32} {s0 : Int32} {σ : Sg} {r : Int32 × Sg} (h : X9_least_j97 N  kr v1 v2 v3 v4 v5 v6 s0 σ = some r) : Gp E RX9 cX9_least (some .int) 9 (7) SH0 r.2 (some (.int r.1)) σ 97 [(0, .ref 149), (1, .int v1), (2, .int v2), (3, .int v3), (4, .int v4), (5, .int v5), (6, .int v6)] [.int s0] := by
  intro Z C hE
  unfold X9_least_j97 at h
  refine r_istore (pc' := 99) (lv2 := [(7, .int s0), (0, .ref 149), (1, .int v1), (2, .int v2), (3, .int v3), (4, .int v4), (5, .int v5), (6, .int v6)]) C dX9_least_97 rfl (Nat.le_of_ble_eq_true rfl) rfl ?_
  refine r_iload (pc' := 101) C dX9_least_99 rfl 0 rfl ?_
  refine r_iload_n (pc' := 102) C dX9_least_101 rfl 2 rfl ?_
  refine r_iand (pc' := 103) C dX9_least_102 rfl ?_
  refine r_if_eq (tgt := 110) (pc' := 106) C dX9_least_103 rfl rfl (fun c18 => ?_) (fun c18 => ?_)
  · rw [if_pos c18] at h
    refine r_iconst (pc' := 111) C dX9_least_110 rfl kc_0 ?_
    refine r_sub [1, 2, 3, 4, 5, 6, 7, 0] rfl ?_
    exact X9_least_j111_ok  hkr h Z C hE
  · rw [if_neg c18] at h
    refine r_iconst (pc' := 107) C dX9_least_106 rfl kc_1 ?_
    refine r_goto (tgt := 111) C dX9_least_107 rfl ?_
    refine r_sub [1, 2, 3, 4, 5, 6, 7, 0] rfl ?_
    exact X9_least_j111_ok  hkr h Z C hE
def X9_least_l65 (N : Nat)  (k168 : Int32 → Int32 → Int32 → Sg → Option (Int32 × Sg))  : Nat → Int32 → Int32 → Int32 → Int32 → Int32 → Int32 → Sg → Option (Int32 × Sg)
  | 0, _, _, _, _, _, _, _ => none
  | n + 1, v1, v2, v3, v4, v5, v6, σ =>
    if (gi σ 149 3) ≤ v6 then (k168 v3 v4 v5 σ) else ((X9_has N v2 v6 σ).bind fun r15 => (if r15 = 0 then (X9_least_j97 N (fun v1 v2 v3 v4 v5 v6 σ => X9_least_l65 N k168 n v1 v2 v3 v4 v5 v6 σ) v1 v2 v3 v4 v5 v6 0 σ) else ((X9_bundle N 153 v6 σ).bind fun r25 => (X9_least_j97 N (fun v1 v2 v3 v4 v5 v6 σ => X9_least_l65 N k168 n v1 v2 v3 v4 v5 v6 σ) v1 v2 v3 v4 v5 v6 r25 σ))))
set_option maxRecDepth 100000 in
set_option maxHeartbeats 4000000 in
theorem X9_least_l65_ok {E : Ev}  {N : Nat} {k168 : Int32 → Int32 → Int32 → Sg → Option (Int32 × Sg)}  (hk168 : ∀ (v3 : Int32) (v4 : Int32) (v5 : Int32) (σ : Sg) (r : Int32 × Sg), k168 v3 v4 v5 σ = some r → Gp E RX9 cX9_least (some .int) 9 (7) SH0 r.2 (some (.int r.1)) σ 168 [(0, .ref 149), (3, .int v3), (4, .int v4), (5, .int v5)] []) : ∀ (n : Nat) (v1 : Int32) (v2 : Int32) (v3 : Int32) (v4 : Int32) (v5 : Int32) (v6 : Int32) (σ : Sg) (r : Int32 × Sg), X9_least_l65 N k168 n v1 v2 v3 v4 v5 v6 σ = some r → Gp E RX9 cX9_least (some .int) 9 (7) SH0 r.2 (some (.int r.1)) σ 65 [(0, .ref 149), (1, .int v1), (2, .int v2), (3, .int v3), (4, .int v4), (5, .int v5), (6, .int v6)] [] := by
  intro n
  induction n with
  | zero => intro v1 v2 v3 v4 v5 v6 σ r h; cases h
  | succ n ih =>
    intro v1 v2 v3 v4 v5 v6 σ r h Z C hE
    unfold X9_least_l65 at h
    refine r_iload (pc' := 67) C dX9_least_65 rfl 6 rfl ?_
    refine r_aload_n (pc' := 68) C dX9_least_67 rfl 0 rfl ?_
    refine r_getI (pc' := 71) C flX9_116 sh_149 rfl dX9_least_68 rfl ?_
    refine r_icmp_ge (tgt := 168) (pc' := 74) C dX9_least_71 rfl rfl (fun c14 => ?_) (fun c14 => ?_)
    · rw [if_pos c14] at h
      refine r_sub [0, 3, 4, 5] rfl ?_
      exact hk168 _ _ _ _ _ h Z C hE
    · rw [if_neg c14] at h
      refine r_iload_n (pc' := 75) C dX9_least_74 rfl 2 rfl ?_
      refine r_iload (pc' := 77) C dX9_least_75 rfl 6 rfl ?_
      obtain ⟨r15, e16, h⟩ := bd h
      refine r_cS1 (pc' := 80) C (X9_has_ok  e16) mlX9_127 ceX9_has csX9_has rfl (Nat.le_of_ble_eq_true rfl) rfl (Nat.le_of_ble_eq_true rfl) dX9_least_77 rfl (kk := ?_)
      refine r_if_eq (tgt := 96) (pc' := 83) C dX9_least_80 rfl rfl (fun c17 => ?_) (fun c17 => ?_)
      · rw [if_pos c17] at h
        refine r_iconst (pc' := 97) C dX9_least_96 rfl kc_0 ?_
        exact X9_least_j97_ok  ih h Z C hE
      · rw [if_neg c17] at h
        refine r_aload_n (pc' := 84) C dX9_least_83 rfl 0 rfl ?_
        refine r_aload_n (pc' := 85) C dX9_least_84 rfl 0 rfl ?_
        refine r_getR (pc' := 88) C flX9_34 sh_149 rfl dX9_least_85 rfl ?_
        refine r_iload (pc' := 90) C dX9_least_88 rfl 6 rfl ?_
        obtain ⟨r25, e26, h⟩ := bd h
        refine r_cV1 (pc' := 93) C (X9_bundle_ok mac_153 e26) mlX9_281 ceX9_bundle cvX9_bundle sh_149 rfl rfl rfl (Nat.le_of_ble_eq_true rfl) rfl (Nat.le_of_ble_eq_true rfl) dX9_least_90 rfl (kk := ?_)
        refine r_goto (tgt := 97) C dX9_least_93 rfl ?_
        exact X9_least_j97_ok  ih h Z C hE
def X9_least_j168 (N : Nat)   (v3 : Int32) (v4 : Int32) (v5 : Int32) (σ : Sg) : Option (Int32 × Sg) :=
  bnS (wi σ 149 1 0) fun σ27 => (X9_enters N v4.toInt64 σ27).bind fun r29 => ((X9_enters N v5.toInt64 r29).bind fun r31 => (some (v3, r31)))
set_option maxRecDepth 100000 in
set_option maxHeartbeats 4000000 in
theorem X9_least_j168_ok {E : Ev}  {N : Nat}    {v3 : Int32} {v4 : Int32} {v5 : Int32} {σ : Sg} {r : Int32 × Sg} (h : X9_least_j168 N   v3 v4 v5 σ = some r) : Gp E RX9 cX9_least (some .int) 9 (7) SH0 r.2 (some (.int r.1)) σ 168 [(0, .ref 149), (3, .int v3), (4, .int v4), (5, .int v5)] [] := by
  intro Z C hE
  unfold X9_least_j168 at h
  refine r_aload_n (pc' := 169) C dX9_least_168 rfl 0 rfl ?_
  refine r_iconst (pc' := 170) C dX9_least_169 rfl kc_0 ?_
  obtain ⟨σ27, e28, h⟩ := bs h
  refine r_putI (pc' := 173) (σ1 := σ27) C fpX9_15 sh_149 rfl rfl rfl dX9_least_170 rfl e28 ?_
  refine r_aload_n (pc' := 174) C dX9_least_173 rfl 0 rfl ?_
  refine r_iload (pc' := 176) C dX9_least_174 rfl 2 rfl ?_
  refine r_i2l (pc' := 177) C dX9_least_176 rfl rfl ?_
  obtain ⟨r29, e30, h⟩ := bd h
  refine r_cV0 (pc' := 180) C (X9_enters_ok  e30) mlX9_327 ceX9_enters cvX9_enters sh_149 rfl rfl rfl (Nat.le_of_ble_eq_true rfl) rfl (Nat.le_of_ble_eq_true rfl) dX9_least_177 rfl (kk := ?_)
  refine r_aload_n (pc' := 181) C dX9_least_180 rfl 0 rfl ?_
  refine r_iload (pc' := 183) C dX9_least_181 rfl 3 rfl ?_
  refine r_i2l (pc' := 184) C dX9_least_183 rfl rfl ?_
  obtain ⟨r31, e32, h⟩ := bd h
  refine r_cV0 (pc' := 187) C (X9_enters_ok  e32) mlX9_327 ceX9_enters cvX9_enters sh_149 rfl rfl rfl (Nat.le_of_ble_eq_true rfl) rfl (Nat.le_of_ble_eq_true rfl) dX9_least_184 rfl (kk := ?_)
  refine r_iload_n (pc' := 188) C dX9_least_187 rfl 1 rfl ?_
  have h := Option.some.inj h
  subst h
  exact r_ret C rfl dX9_least_188 hE
def X9_least (N : Nat)  (v1 : Int32) (σ : Sg) : Option (Int32 × Sg) :=
  bnS (wi σ 149 0 0) fun σ1 => (X9_all N σ1).bind fun r3 => ((X9_in N v1.toInt64 0 r3.toInt64 σ1).bind fun r5 => (if r5 = 0 then (some ((-1), σ1)) else (if inb 32 37 = true then if (v1 &&& (gi σ1 153 (32 : Int32).toNatClampNeg)) = 0 then ((X9_firstOnes N 153 σ1).bind fun r10 => ((X9_floating N 153 σ1).bind fun r12 => (X9_least_l65 N (fun v3 v4 v5 σ => X9_least_j168 N v3 v4 v5 σ) N v1 (r10 &&& r12.1) 0 0 0 0 r12.2))) else (some ((-2), σ1)) else none)))
set_option maxRecDepth 100000 in
set_option maxHeartbeats 4000000 in
theorem X9_least_ok {E : Ev}  {N : Nat} {v1 : Int32} {σ : Sg} {r : Int32 × Sg} (h : X9_least N  v1 σ = some r) : Cm E (7) yX9_least cX9_least 9 (some .int) [.ref 149, .int v1] SH0 SH0 σ r.2 (some (.int r.1)) 0 0 := by
  refine Cm.intro (by decide +kernel) (Nat.le_of_ble_eq_true rfl) (fun _ h => by obtain ⟨_, _, _, _, _, _, h⟩ := h; exact h) (fun Z C hE => ?_)
  show Wm E Z 0 0 SH0 σ 0 [(0, .ref 149), (1, .int v1)] []
  unfold X9_least at h
  refine r_aload_n (pc' := 1) C dX9_least_0 rfl 0 rfl ?_
  refine r_iconst (pc' := 2) C dX9_least_1 rfl kc_0 ?_
  obtain ⟨σ1, e2, h⟩ := bs h
  refine r_putI (pc' := 5) (σ1 := σ1) C fpX9_3 sh_149 rfl rfl rfl dX9_least_2 rfl e2 ?_
  refine r_iload_n (pc' := 6) C dX9_least_5 rfl 1 rfl ?_
  refine r_i2l (pc' := 7) C dX9_least_6 rfl rfl ?_
  refine r_lconst (pc' := 8) C dX9_least_7 rfl kl_0 ?_
  refine r_aload_n (pc' := 9) C dX9_least_8 rfl 0 rfl ?_
  obtain ⟨r3, e4, h⟩ := bd h
  refine r_cV1 (pc' := 12) C (X9_all_ok  e4) mlX9_131 ceX9_all cvX9_all sh_149 rfl rfl rfl (Nat.le_of_ble_eq_true rfl) rfl (Nat.le_of_ble_eq_true rfl) dX9_least_9 rfl (kk := ?_)
  refine r_i2l (pc' := 13) C dX9_least_12 rfl rfl ?_
  obtain ⟨r5, e6, h⟩ := bd h
  refine r_cS1 (pc' := 16) C (X9_in_ok  e6) mlX9_119 ceX9_in csX9_in rfl (Nat.le_of_ble_eq_true rfl) rfl (Nat.le_of_ble_eq_true rfl) dX9_least_13 rfl (kk := ?_)
  refine r_if_ne (tgt := 21) (pc' := 19) C dX9_least_16 rfl rfl (fun c7 => ?_) (fun c7 => ?_)
  · rw [if_neg c7] at h
    refine r_iload_n (pc' := 22) C dX9_least_21 rfl 1 rfl ?_
    refine r_aload_n (pc' := 23) C dX9_least_22 rfl 0 rfl ?_
    refine r_getR (pc' := 26) C flX9_34 sh_149 rfl dX9_least_23 rfl ?_
    refine r_bipush (pc' := 28) C dX9_least_26 rfl kb_32 ?_
    obtain ⟨q8, h⟩ := ck h
    refine r_iald (pc' := 29) C sh_153 (vin q8) dX9_least_28 rfl ?_
    refine r_iand (pc' := 30) C dX9_least_29 rfl ?_
    refine r_if_eq (tgt := 36) (pc' := 33) C dX9_least_30 rfl rfl (fun c9 => ?_) (fun c9 => ?_)
    · rw [if_pos c9] at h
      refine r_aload_n (pc' := 37) C dX9_least_36 rfl 0 rfl ?_
      refine r_aload_n (pc' := 38) C dX9_least_37 rfl 0 rfl ?_
      refine r_getR (pc' := 41) C flX9_34 sh_149 rfl dX9_least_38 rfl ?_
      obtain ⟨r10, e11, h⟩ := bd h
      refine r_cV1 (pc' := 44) C (X9_firstOnes_ok mac_153 e11) mlX9_359 ceX9_firstOnes cvX9_firstOnes sh_149 rfl rfl rfl (Nat.le_of_ble_eq_true rfl) rfl (Nat.le_of_ble_eq_true rfl) dX9_least_41 rfl (kk := ?_)
      refine r_aload_n (pc' := 45) C dX9_least_44 rfl 0 rfl ?_
      refine r_aload_n (pc' := 46) C dX9_least_45 rfl 0 rfl ?_
      refine r_getR (pc' := 49) C flX9_34 sh_149 rfl dX9_least_46 rfl ?_
      obtain ⟨r12, e13, h⟩ := bd h
      refine r_cV1 (pc' := 52) C (X9_floating_ok mac_153 e13) mlX9_303 ceX9_floating cvX9_floating sh_149 rfl rfl rfl (Nat.le_of_ble_eq_true rfl) rfl (Nat.le_of_ble_eq_true rfl) dX9_least_49 rfl (kk := ?_)
      refine r_iand (pc' := 53) C dX9_least_52 rfl ?_
      refine r_istore_n (pc' := 54) (lv2 := [(2, .int (r10 &&& r12.1)), (0, .ref 149), (1, .int v1)]) C dX9_least_53 rfl rfl (Nat.le_of_ble_eq_true rfl) rfl ?_
      refine r_iconst (pc' := 55) C dX9_least_54 rfl kc_0 ?_
      refine r_istore_n (pc' := 56) (lv2 := [(3, .int 0), (2, .int (r10 &&& r12.1)), (0, .ref 149), (1, .int v1)]) C dX9_least_55 rfl rfl (Nat.le_of_ble_eq_true rfl) rfl ?_
      refine r_iconst (pc' := 57) C dX9_least_56 rfl kc_0 ?_
      refine r_istore (pc' := 59) (lv2 := [(4, .int 0), (3, .int 0), (2, .int (r10 &&& r12.1)), (0, .ref 149), (1, .int v1)]) C dX9_least_57 rfl (Nat.le_of_ble_eq_true rfl) rfl ?_
      refine r_iconst (pc' := 60) C dX9_least_59 rfl kc_0 ?_
      refine r_istore (pc' := 62) (lv2 := [(5, .int 0), (4, .int 0), (3, .int 0), (2, .int (r10 &&& r12.1)), (0, .ref 149), (1, .int v1)]) C dX9_least_60 rfl (Nat.le_of_ble_eq_true rfl) rfl ?_
      refine r_iconst (pc' := 63) C dX9_least_62 rfl kc_0 ?_
      refine r_istore (pc' := 65) (lv2 := [(6, .int 0), (5, .int 0), (4, .int 0), (3, .int 0), (2, .int (r10 &&& r12.1)), (0, .ref 149), (1, .int v1)]) C dX9_least_63 rfl (Nat.le_of_ble_eq_true rfl) rfl ?_
      refine r_sub [5, 6, 4, 3, 2, 1, 0] rfl ?_
      exact X9_least_l65_ok  (fun _ _ _ _ _ h Z C hE => by exact X9_least_j168_ok  h Z C hE) N _ _ _ _ _ _ _ _ h Z C hE
    · rw [if_neg c9] at h
      refine r_bipush (pc' := 35) C dX9_least_33 rfl kb_m2 ?_
      have h := Option.some.inj h
      subst h
      exact r_ret C rfl dX9_least_35 hE
  · rw [if_pos c7] at h
    refine r_iconst (pc' := 20) C dX9_least_19 rfl kc_m1 ?_
    have h := Option.some.inj h
    subst h
    exact r_ret C rfl dX9_least_20 hE
