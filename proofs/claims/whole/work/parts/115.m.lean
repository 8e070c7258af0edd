/-! BorrowedWeightModel.readsRequest()Z -/
def X9_readsRequest_j119 (N : Nat)   (v1 : Int32) (s0 : Int32) (s1 : Int32) (σ : Sg) : Option (Int32 × Sg) :=
  if inb s1 48 = true then bnS (wi σ 156 s1.toNatClampNeg s0) fun σ27 => bnS (wi σ27 149 16 ((gi σ27 149 16) + 1)) fun σ29 => if inb (v1 + 3) 48 = true then if (gi σ29 156 (v1 + 3).toNatClampNeg) < 0 then (some (0, σ29)) else (some (1, σ29)) else none else none
set_option maxRecDepth 100000 in
set_option maxHeartbeats 4000000 in
theorem X9_readsRequest_j119_ok {E : Ev}  {N : Nat}    {v1 : Int32} {s0 : Int32} {s1 : Int32} {σ : Sg} {r : Int32 × Sg} (h : X9_readsRequest_j119 N   v1 s0 s1 σ = some r) : Gp E RX9 cX9_readsRequest (some .boolean) 2 (3) SH0 r.2 (some (.int r.1)) σ 119 [(0, .ref 149), (1, .int v1)] [.int s0, .int s1, .ref 156] := by
  intro Z C hE
  unfold X9_readsRequest_j119 at h
  obtain ⟨q26, h⟩ := ck h
  obtain ⟨σ27, e28, h⟩ := bs h
  refine r_iast (pc' := 120) (σ1 := σ27) C sh_156 (vin q26) dX9_readsRequest_119 rfl e28 ?_
  refine r_aload_n (pc' := 121) C dX9_readsRequest_120 rfl 0 rfl ?_
  refine r_dup (pc' := 122) C dX9_readsRequest_121 rfl rfl ?_
  refine r_getI (pc' := 125) C flX9_183 sh_149 rfl dX9_readsRequest_122 rfl ?_
  refine r_iconst (pc' := 126) C dX9_readsRequest_125 rfl kc_1 ?_
  refine r_iadd (pc' := 127) C dX9_readsRequest_126 rfl ?_
  obtain ⟨σ29, e30, h⟩ := bs h
  refine r_putI (pc' := 130) (σ1 := σ29) C fpX9_183 sh_149 rfl rfl rfl dX9_readsRequest_127 rfl e30 ?_
  refine r_aload_n (pc' := 131) C dX9_readsRequest_130 rfl 0 rfl ?_
  refine r_getR (pc' := 134) C flX9_43 sh_149 rfl dX9_readsRequest_131 rfl ?_
  refine r_iload_n (pc' := 135) C dX9_readsRequest_134 rfl 1 rfl ?_
  refine r_iconst (pc' := 136) C dX9_readsRequest_135 rfl kc_3 ?_
  refine r_iadd (pc' := 137) C dX9_readsRequest_136 rfl ?_
  obtain ⟨q31, h⟩ := ck h
  refine r_iald (pc' := 138) C sh_156 (vin q31) dX9_readsRequest_137 rfl ?_
  refine r_if_lt (tgt := 145) (pc' := 141) C dX9_readsRequest_138 rfl rfl (fun c32 => ?_) (fun c32 => ?_)
  · rw [if_pos c32] at h
    refine r_iconst (pc' := 146) C dX9_readsRequest_145 rfl kc_0 ?_
    have h := Option.some.inj h
    subst h
    exact r_ret C rfl dX9_readsRequest_146 hE
  · rw [if_neg c32] at h
    refine r_iconst (pc' := 142) C dX9_readsRequest_141 rfl kc_1 ?_
    refine r_goto (tgt := 146) C dX9_readsRequest_142 rfl ?_
    have h := Option.some.inj h
    subst h
    exact r_ret C rfl dX9_readsRequest_146 hE
def X9_readsRequest_j91 (N : Nat)   (v1 : Int32) (s0 : Int32) (s1 : Int32) (σ : Sg) : Option (Int32 × Sg) :=
  if inb s1 48 = true then bnS (wi σ 156 s1.toNatClampNeg s0) fun σ20 => if inb (v1 + 2) 48 = true then if 0 ≤ (gi σ20 156 (v1 + 2).toNatClampNeg) then ((X9_number N 1 σ20).bind fun r24 => (X9_readsRequest_j119 N v1 r24.1 (v1 + 3) r24.2)) else (X9_readsRequest_j119 N v1 (-1) (v1 + 3) σ20) else none else none
set_option maxRecDepth 100000 in
set_option maxHeartbeats 4000000 in
theorem X9_readsRequest_j91_ok {E : Ev}  {N : Nat}    {v1 : Int32} {s0 : Int32} {s1 : Int32} {σ : Sg} {r : Int32 × Sg} (h : X9_readsRequest_j91 N   v1 s0 s1 σ = some r) : Gp E RX9 cX9_readsRequest (some .boolean) 2 (3) SH0 r.2 (some (.int r.1)) σ 91 [(0, .ref 149), (1, .int v1)] [.int s0, .int s1, .ref 156] := by
  intro Z C hE
  unfold X9_readsRequest_j91 at h
  obtain ⟨q19, h⟩ := ck h
  obtain ⟨σ20, e21, h⟩ := bs h
  refine r_iast (pc' := 92) (σ1 := σ20) C sh_156 (vin q19) dX9_readsRequest_91 rfl e21 ?_
  refine r_aload_n (pc' := 93) C dX9_readsRequest_92 rfl 0 rfl ?_
  refine r_getR (pc' := 96) C flX9_43 sh_149 rfl dX9_readsRequest_93 rfl ?_
  refine r_iload_n (pc' := 97) C dX9_readsRequest_96 rfl 1 rfl ?_
  refine r_iconst (pc' := 98) C dX9_readsRequest_97 rfl kc_3 ?_
  refine r_iadd (pc' := 99) C dX9_readsRequest_98 rfl ?_
  refine r_aload_n (pc' := 100) C dX9_readsRequest_99 rfl 0 rfl ?_
  refine r_getR (pc' := 103) C flX9_43 sh_149 rfl dX9_readsRequest_100 rfl ?_
  refine r_iload_n (pc' := 104) C dX9_readsRequest_103 rfl 1 rfl ?_
  refine r_iconst (pc' := 105) C dX9_readsRequest_104 rfl kc_2 ?_
  refine r_iadd (pc' := 106) C dX9_readsRequest_105 rfl ?_
  obtain ⟨q22, h⟩ := ck h
  refine r_iald (pc' := 107) C sh_156 (vin q22) dX9_readsRequest_106 rfl ?_
  refine r_if_ge (tgt := 114) (pc' := 110) C dX9_readsRequest_107 rfl rfl (fun c23 => ?_) (fun c23 => ?_)
  · rw [if_pos c23] at h
    refine r_aload_n (pc' := 115) C dX9_readsRequest_114 rfl 0 rfl ?_
    refine r_iconst (pc' := 116) C dX9_readsRequest_115 rfl kc_1 ?_
    obtain ⟨r24, e25, h⟩ := bd h
    refine r_cV1 (pc' := 119) C (X9_number_ok  e25) mlX9_219 ceX9_number cvX9_number sh_149 rfl rfl rfl (Nat.le_of_ble_eq_true rfl) rfl (Nat.le_of_ble_eq_true rfl) dX9_readsRequest_116 rfl (kk := ?_)
    exact X9_readsRequest_j119_ok  h Z C hE
  · rw [if_neg c23] at h
    refine r_iconst (pc' := 111) C dX9_readsRequest_110 rfl kc_m1 ?_
    refine r_goto (tgt := 119) C dX9_readsRequest_111 rfl ?_
    exact X9_readsRequest_j119_ok  h Z C hE
def X9_readsRequest_j61 (N : Nat)   (v1 : Int32) (s0 : Int32) (s1 : Int32) (σ : Sg) : Option (Int32 × Sg) :=
  if inb s1 48 = true then bnS (wi σ 156 s1.toNatClampNeg s0) fun σ13 => if inb (v1 + 1) 48 = true then if 0 ≤ (gi σ13 156 (v1 + 1).toNatClampNeg) then ((X9_digitIn N 1 9 σ13).bind fun r17 => (X9_readsRequest_j91 N v1 r17.1 (v1 + 2) r17.2)) else (X9_readsRequest_j91 N v1 (-1) (v1 + 2) σ13) else none else none
set_option maxRecDepth 100000 in
set_option maxHeartbeats 4000000 in
theorem X9_readsRequest_j61_ok {E : Ev}  {N : Nat}    {v1 : Int32} {s0 : Int32} {s1 : Int32} {σ : Sg} {r : Int32 × Sg} (h : X9_readsRequest_j61 N   v1 s0 s1 σ = some r) : Gp E RX9 cX9_readsRequest (some .boolean) 2 (3) SH0 r.2 (some (.int r.1)) σ 61 [(0, .ref 149), (1, .int v1)] [.int s0, .int s1, .ref 156] := by
  intro Z C hE
  unfold X9_readsRequest_j61 at h
  obtain ⟨q12, h⟩ := ck h
  obtain ⟨σ13, e14, h⟩ := bs h
  refine r_iast (pc' := 62) (σ1 := σ13) C sh_156 (vin q12) dX9_readsRequest_61 rfl e14 ?_
  refine r_aload_n (pc' := 63) C dX9_readsRequest_62 rfl 0 rfl ?_
  refine r_getR (pc' := 66) C flX9_43 sh_149 rfl dX9_readsRequest_63 rfl ?_
  refine r_iload_n (pc' := 67) C dX9_readsRequest_66 rfl 1 rfl ?_
  refine r_iconst (pc' := 68) C dX9_readsRequest_67 rfl kc_2 ?_
  refine r_iadd (pc' := 69) C dX9_readsRequest_68 rfl ?_
  refine r_aload_n (pc' := 70) C dX9_readsRequest_69 rfl 0 rfl ?_
  refine r_getR (pc' := 73) C flX9_43 sh_149 rfl dX9_readsRequest_70 rfl ?_
  refine r_iload_n (pc' := 74) C dX9_readsRequest_73 rfl 1 rfl ?_
  refine r_iconst (pc' := 75) C dX9_readsRequest_74 rfl kc_1 ?_
  refine r_iadd (pc' := 76) C dX9_readsRequest_75 rfl ?_
  obtain ⟨q15, h⟩ := ck h
  refine r_iald (pc' := 77) C sh_156 (vin q15) dX9_readsRequest_76 rfl ?_
  refine r_if_ge (tgt := 84) (pc' := 80) C dX9_readsRequest_77 rfl rfl (fun c16 => ?_) (fun c16 => ?_)
  · rw [if_pos c16] at h
    refine r_aload_n (pc' := 85) C dX9_readsRequest_84 rfl 0 rfl ?_
    refine r_iconst (pc' := 86) C dX9_readsRequest_85 rfl kc_1 ?_
    refine r_bipush (pc' := 88) C dX9_readsRequest_86 rfl kb_9 ?_
    obtain ⟨r17, e18, h⟩ := bd h
    refine r_cV1 (pc' := 91) C (X9_digitIn_ok  e18) mlX9_186 ceX9_digitIn cvX9_digitIn sh_149 rfl rfl rfl (Nat.le_of_ble_eq_true rfl) rfl (Nat.le_of_ble_eq_true rfl) dX9_readsRequest_88 rfl (kk := ?_)
    exact X9_readsRequest_j91_ok  h Z C hE
  · rw [if_neg c16] at h
    refine r_iconst (pc' := 81) C dX9_readsRequest_80 rfl kc_m1 ?_
    refine r_goto (tgt := 91) C dX9_readsRequest_81 rfl ?_
    exact X9_readsRequest_j91_ok  h Z C hE
def X9_readsRequest (N : Nat)   (σ : Sg) : Option (Int32 × Sg) :=
  if (gi σ 149 16) = 8 then (some (0, σ)) else ((X9_number N 1 σ).bind fun r2 => (if inb (4 * (gi σ 149 16)) 48 = true then bnS (wi r2.2 156 (4 * (gi σ 149 16)).toNatClampNeg r2.1) fun σ5 => if inb (4 * (gi σ 149 16)) 48 = true then if 0 ≤ (gi σ5 156 (4 * (gi σ 149 16)).toNatClampNeg) then (if inb (4 * (gi σ 149 16)) 48 = true then (X9_digitIn N (gi σ5 156 (4 * (gi σ 149 16)).toNatClampNeg) 9 σ5).bind fun r10 => (X9_readsRequest_j61 N (4 * (gi σ 149 16)) r10.1 ((4 * (gi σ 149 16)) + 1) r10.2) else none) else (X9_readsRequest_j61 N (4 * (gi σ 149 16)) (-1) ((4 * (gi σ 149 16)) + 1) σ5) else none else none))
set_option maxRecDepth 100000 in
set_option maxHeartbeats 4000000 in
theorem X9_readsRequest_ok {E : Ev}  {N : Nat}  {σ : Sg} {r : Int32 × Sg} (h : X9_readsRequest N   σ = some r) : Cm E (3) yX9_readsRequest cX9_readsRequest 2 (some .boolean) [.ref 149] SH0 SH0 σ r.2 (some (.int r.1)) 0 0 := by
  refine Cm.intro (by decide +kernel) (Nat.le_of_ble_eq_true rfl) (fun _ h => by obtain ⟨_, _, _, _, _, _, h⟩ := h; exact h) (fun Z C hE => ?_)
  show Wm E Z 0 0 SH0 σ 0 [(0, .ref 149)] []
  unfold X9_readsRequest at h
  refine r_aload_n (pc' := 1) C dX9_readsRequest_0 rfl 0 rfl ?_
  refine r_getI (pc' := 4) C flX9_183 sh_149 rfl dX9_readsRequest_1 rfl ?_
  refine r_bipush (pc' := 6) C dX9_readsRequest_4 rfl kb_8 ?_
  refine r_icmp_ne (tgt := 11) (pc' := 9) C dX9_readsRequest_6 rfl rfl (fun c1 => ?_) (fun c1 => ?_)
  · rw [if_neg c1] at h
    refine r_iconst (pc' := 12) C dX9_readsRequest_11 rfl kc_4 ?_
    refine r_aload_n (pc' := 13) C dX9_readsRequest_12 rfl 0 rfl ?_
    refine r_getI (pc' := 16) C flX9_183 sh_149 rfl dX9_readsRequest_13 rfl ?_
    refine r_imul (pc' := 17) C dX9_readsRequest_16 rfl ?_
    refine r_istore_n (pc' := 18) (lv2 := [(1, .int (4 * (gi σ 149 16))), (0, .ref 149)]) C dX9_readsRequest_17 rfl rfl (Nat.le_of_ble_eq_true rfl) rfl ?_
    refine r_aload_n (pc' := 19) C dX9_readsRequest_18 rfl 1 rfl ?_
    refine r_getR (pc' := 22) C flX9_43 sh_149 rfl dX9_readsRequest_19 rfl ?_
    refine r_iload_n (pc' := 23) C dX9_readsRequest_22 rfl 0 rfl ?_
    refine r_aload_n (pc' := 24) C dX9_readsRequest_23 rfl 1 rfl ?_
    refine r_iconst (pc' := 25) C dX9_readsRequest_24 rfl kc_1 ?_
    obtain ⟨r2, e3, h⟩ := bd h
    refine r_cV1 (pc' := 28) C (X9_number_ok  e3) mlX9_219 ceX9_number cvX9_number sh_149 rfl rfl rfl (Nat.le_of_ble_eq_true rfl) rfl (Nat.le_of_ble_eq_true rfl) dX9_readsRequest_25 rfl (kk := ?_)
    obtain ⟨q4, h⟩ := ck h
    obtain ⟨σ5, e6, h⟩ := bs h
    refine r_iast (pc' := 29) (σ1 := σ5) C sh_156 (vin q4) dX9_readsRequest_28 rfl e6 ?_
    refine r_aload_n (pc' := 30) C dX9_readsRequest_29 rfl 1 rfl ?_
    refine r_getR (pc' := 33) C flX9_43 sh_149 rfl dX9_readsRequest_30 rfl ?_
    refine r_iload_n (pc' := 34) C dX9_readsRequest_33 rfl 0 rfl ?_
    refine r_iconst (pc' := 35) C dX9_readsRequest_34 rfl kc_1 ?_
    refine r_iadd (pc' := 36) C dX9_readsRequest_35 rfl ?_
    refine r_aload_n (pc' := 37) C dX9_readsRequest_36 rfl 1 rfl ?_
    refine r_getR (pc' := 40) C flX9_43 sh_149 rfl dX9_readsRequest_37 rfl ?_
    refine r_iload_n (pc' := 41) C dX9_readsRequest_40 rfl 0 rfl ?_
    obtain ⟨q7, h⟩ := ck h
    refine r_iald (pc' := 42) C sh_156 (vin q7) dX9_readsRequest_41 rfl ?_
    refine r_if_ge (tgt := 49) (pc' := 45) C dX9_readsRequest_42 rfl rfl (fun c8 => ?_) (fun c8 => ?_)
    · rw [if_pos c8] at h
      refine r_aload_n (pc' := 50) C dX9_readsRequest_49 rfl 1 rfl ?_
      refine r_aload_n (pc' := 51) C dX9_readsRequest_50 rfl 1 rfl ?_
      refine r_getR (pc' := 54) C flX9_43 sh_149 rfl dX9_readsRequest_51 rfl ?_
      refine r_iload_n (pc' := 55) C dX9_readsRequest_54 rfl 0 rfl ?_
      obtain ⟨q9, h⟩ := ck h
      refine r_iald (pc' := 56) C sh_156 (vin q9) dX9_readsRequest_55 rfl ?_
      refine r_bipush (pc' := 58) C dX9_readsRequest_56 rfl kb_9 ?_
      obtain ⟨r10, e11, h⟩ := bd h
      refine r_cV1 (pc' := 61) C (X9_digitIn_ok  e11) mlX9_186 ceX9_digitIn cvX9_digitIn sh_149 rfl rfl rfl (Nat.le_of_ble_eq_true rfl) rfl (Nat.le_of_ble_eq_true rfl) dX9_readsRequest_58 rfl (kk := ?_)
      refine r_sub [1, 0] rfl ?_
      exact X9_readsRequest_j61_ok  h Z C hE
    · rw [if_neg c8] at h
      refine r_iconst (pc' := 46) C dX9_readsRequest_45 rfl kc_m1 ?_
      refine r_goto (tgt := 61) C dX9_readsRequest_46 rfl ?_
      refine r_sub [1, 0] rfl ?_
      exact X9_readsRequest_j61_ok  h Z C hE
  · rw [if_pos c1] at h
    refine r_iconst (pc' := 10) C dX9_readsRequest_9 rfl kc_0 ?_
    have h := Option.some.inj h
    subst h
    exact r_ret C rfl dX9_readsRequest_10 hE

/-! BorrowedWeightModel.priceOf(I)I -/
def X9_priceOf_l4 (N : Nat)   (σ : Sg) : Nat → Int32 → Int32 → Int32 → Option (Int32)
  | 0, _, _, _ => none
  | n + 1, v1, v2, v3 =>
    if (gi σ 149 16) ≤ v3 then (some v2) else ((X9_has N v1 v3 σ).bind fun r2 => (if r2 = 0 then (X9_priceOf_l4 N σ n v1 (v2 + 0) (v3 + 1)) else (if inb ((4 * v3) + 3) 48 = true then X9_priceOf_l4 N σ n v1 (v2 + (gi σ 156 ((4 * v3) + 3).toNatClampNeg)) (v3 + 1) else none)))
set_option maxRecDepth 100000 in
set_option maxHeartbeats 4000000 in
theorem X9_priceOf_l4_ok {E : Ev}  {N : Nat}  {σ : Sg}  : ∀ (n : Nat) (v1 : Int32) (v2 : Int32) (v3 : Int32) (r : Int32), X9_priceOf_l4 N σ n v1 v2 v3 = some r → Gp E RX9 cX9_priceOf (some .int) 4 (1) SH0 σ (some (.int r)) σ 4 [(0, .ref 149), (1, .int v1), (2, .int v2), (3, .int v3)] [] := by
  intro n
  induction n with
  | zero => intro v1 v2 v3 r h; cases h
  | succ n ih =>
    intro v1 v2 v3 r h Z C hE
    unfold X9_priceOf_l4 at h
    refine r_iload_n (pc' := 5) C dX9_priceOf_4 rfl 3 rfl ?_
    refine r_aload_n (pc' := 6) C dX9_priceOf_5 rfl 0 rfl ?_
    refine r_getI (pc' := 9) C flX9_183 sh_149 rfl dX9_priceOf_6 rfl ?_
    refine r_icmp_ge (tgt := 43) (pc' := 12) C dX9_priceOf_9 rfl rfl (fun c1 => ?_) (fun c1 => ?_)
    · rw [if_pos c1] at h
      refine r_iload_n (pc' := 44) C dX9_priceOf_43 rfl 2 rfl ?_
      have h := Option.some.inj h
      subst h
      exact r_ret C rfl dX9_priceOf_44 hE
    · rw [if_neg c1] at h
      refine r_iload_n (pc' := 13) C dX9_priceOf_12 rfl 2 rfl ?_
      refine r_iload_n (pc' := 14) C dX9_priceOf_13 rfl 1 rfl ?_
      refine r_iload_n (pc' := 15) C dX9_priceOf_14 rfl 3 rfl ?_
      obtain ⟨r2, e3, h⟩ := bd h
      refine r_cS1 (pc' := 18) C (X9_has_ok  e3) mlX9_127 ceX9_has csX9_has rfl (Nat.le_of_ble_eq_true rfl) rfl (Nat.le_of_ble_eq_true rfl) dX9_priceOf_15 rfl (kk := ?_)
      refine r_if_eq (tgt := 34) (pc' := 21) C dX9_priceOf_18 rfl rfl (fun c4 => ?_) (fun c4 => ?_)
      · rw [if_pos c4] at h
        refine r_iconst (pc' := 35) C dX9_priceOf_34 rfl kc_0 ?_
        refine r_iadd (pc' := 36) C dX9_priceOf_35 rfl ?_
        refine r_istore_n (pc' := 37) (lv2 := [(2, .int (v2 + 0)), (0, .ref 149), (1, .int v1), (3, .int v3)]) C dX9_priceOf_36 rfl rfl (Nat.le_of_ble_eq_true rfl) rfl ?_
        refine r_iinc (pc' := 40) (v := v3 + 1) (lv2 := [(3, .int (v3 + 1)), (2, .int (v2 + 0)), (0, .ref 149), (1, .int v1)]) C dX9_priceOf_37 rfl 3 rfl rfl (Nat.le_of_ble_eq_true rfl) rfl ?_
        refine r_goto (tgt := 4) C dX9_priceOf_40 rfl ?_
        refine r_sub [2, 3, 1, 0] rfl ?_
        exact ih _ _ _ _ h Z C hE
      · rw [if_neg c4] at h
        refine r_aload_n (pc' := 22) C dX9_priceOf_21 rfl 0 rfl ?_
        refine r_getR (pc' := 25) C flX9_43 sh_149 rfl dX9_priceOf_22 rfl ?_
        refine r_iconst (pc' := 26) C dX9_priceOf_25 rfl kc_4 ?_
        refine r_iload_n (pc' := 27) C dX9_priceOf_26 rfl 3 rfl ?_
        refine r_imul (pc' := 28) C dX9_priceOf_27 rfl ?_
        refine r_iconst (pc' := 29) C dX9_priceOf_28 rfl kc_3 ?_
        refine r_iadd (pc' := 30) C dX9_priceOf_29 rfl ?_
        obtain ⟨q5, h⟩ := ck h
        refine r_iald (pc' := 31) C sh_156 (vin q5) dX9_priceOf_30 rfl ?_
        refine r_goto (tgt := 35) C dX9_priceOf_31 rfl ?_
        refine r_iadd (pc' := 36) C dX9_priceOf_35 rfl ?_
        refine r_istore_n (pc' := 37) (lv2 := [(2, .int (v2 + (gi σ 156 ((4 * v3) + 3).toNatClampNeg))), (0, .ref 149), (1, .int v1), (3, .int v3)]) C dX9_priceOf_36 rfl rfl (Nat.le_of_ble_eq_true rfl) rfl ?_
        refine r_iinc (pc' := 40) (v := v3 + 1) (lv2 := [(3, .int (v3 + 1)), (2, .int (v2 + (gi σ 156 ((4 * v3) + 3).toNatClampNeg))), (0, .ref 149), (1, .int v1)]) C dX9_priceOf_37 rfl 3 rfl rfl (Nat.le_of_ble_eq_true rfl) rfl ?_
        refine r_goto (tgt := 4) C dX9_priceOf_40 rfl ?_
        refine r_sub [2, 3, 1, 0] rfl ?_
        exact ih _ _ _ _ h Z C hE
def X9_priceOf (N : Nat)  (v1 : Int32) (σ : Sg) : Option (Int32) :=
  X9_priceOf_l4 N σ N v1 0 0
set_option maxRecDepth 100000 in
set_option maxHeartbeats 4000000 in
theorem X9_priceOf_ok {E : Ev}  {N : Nat} {v1 : Int32} {σ : Sg} {r : Int32} (h : X9_priceOf N  v1 σ = some r) : Cm E (1) yX9_priceOf cX9_priceOf 4 (some .int) [.ref 149, .int v1] SH0 SH0 σ σ (some (.int r)) 0 0 := by
  refine Cm.intro (by decide +kernel) (Nat.le_of_ble_eq_true rfl) (fun _ h => by obtain ⟨_, _, _, _, _, _, h⟩ := h; exact h) (fun Z C hE => ?_)
  show Wm E Z 0 0 SH0 σ 0 [(0, .ref 149), (1, .int v1)] []
  unfold X9_priceOf at h
  refine r_iconst (pc' := 1) C dX9_priceOf_0 rfl kc_0 ?_
  refine r_istore_n (pc' := 2) (lv2 := [(2, .int 0), (0, .ref 149), (1, .int v1)]) C dX9_priceOf_1 rfl rfl (Nat.le_of_ble_eq_true rfl) rfl ?_
  refine r_iconst (pc' := 3) C dX9_priceOf_2 rfl kc_0 ?_
  refine r_istore_n (pc' := 4) (lv2 := [(3, .int 0), (2, .int 0), (0, .ref 149), (1, .int v1)]) C dX9_priceOf_3 rfl rfl (Nat.le_of_ble_eq_true rfl) rfl ?_
  refine r_sub [2, 3, 1, 0] rfl ?_
  exact X9_priceOf_l4_ok  N _ _ _ _ h Z C hE

/-! BorrowedWeightModel.canServe(I)Z -/
def X9_canServe_l16 (N : Nat)  (k90 : Int32 → Int32 → Int32 → Int32 → Option (Int32)) (σ : Sg) : Nat → Int32 → Int32 → Int32 → Int32 → Int32 → Option (Int32)
  | 0, _, _, _, _, _ => none
  | n + 1, v1, v2, v3, v4, v5 =>
    if (gi σ 149 16) ≤ v5 then (k90 v1 v2 v3 v4) else ((X9_has N v1 v5 σ).bind fun r4 => (if r4 = 0 then (X9_canServe_l16 N k90 σ n v1 v2 v3 (v4 + 0) (v5 + 1)) else (if inb (4 * v5) 48 = true then if inb ((4 * v5) + 1) 48 = true then (X9_in N v3.toInt64 ((gi σ 156 (4 * v5).toNatClampNeg).toInt64) ((gi σ 156 ((4 * v5) + 1).toNatClampNeg).toInt64) σ).bind fun r9 => (if r9 = 0 then (X9_canServe_l16 N k90 σ n v1 v2 v3 (v4 + 0) (v5 + 1)) else (if inb ((4 * v5) + 2) 48 = true then X9_canServe_l16 N k90 σ n v1 v2 v3 (v4 + (gi σ 156 ((4 * v5) + 2).toNatClampNeg)) (v5 + 1) else none)) else none else none)))
set_option maxRecDepth 100000 in
set_option maxHeartbeats 4000000 in
theorem X9_canServe_l16_ok {E : Ev}  {N : Nat} {k90 : Int32 → Int32 → Int32 → Int32 → Option (Int32)} {σ : Sg} (hk90 : ∀ (v1 : Int32) (v2 : Int32) (v3 : Int32) (v4 : Int32) (r : Int32), k90 v1 v2 v3 v4 = some r → Gp E RX9 cX9_canServe (some .boolean) 6 (1) SH0 σ (some (.int r)) σ 90 [(0, .ref 149), (1, .int v1), (2, .int v2), (3, .int v3), (4, .int v4)] []) : ∀ (n : Nat) (v1 : Int32) (v2 : Int32) (v3 : Int32) (v4 : Int32) (v5 : Int32) (r : Int32), X9_canServe_l16 N k90 σ n v1 v2 v3 v4 v5 = some r → Gp E RX9 cX9_canServe (some .boolean) 6 (1) SH0 σ (some (.int r)) σ 16 [(0, .ref 149), (1, .int v1), (2, .int v2), (3, .int v3), (4, .int v4), (5, .int v5)] [] := by
  intro n
  induction n with
  | zero => intro v1 v2 v3 v4 v5 r h; cases h
  | succ n ih =>
    intro v1 v2 v3 v4 v5 r h Z C hE
    unfold X9_canServe_l16 at h
    refine r_iload (pc' := 18) C dX9_canServe_16 rfl 5 rfl ?_
    refine r_aload_n (pc' := 19) C dX9_canServe_18 rfl 0 rfl ?_
    refine r_getI (pc' := 22) C flX9_183 sh_149 rfl dX9_canServe_19 rfl ?_
    refine r_icmp_ge (tgt := 90) (pc' := 25) C dX9_canServe_22 rfl rfl (fun c3 => ?_) (fun c3 => ?_)
    · rw [if_pos c3] at h
      refine r_sub [0, 1, 2, 3, 4] rfl ?_
      exact hk90 _ _ _ _ _ h Z C hE
    · rw [if_neg c3] at h
      refine r_iload (pc' := 27) C dX9_canServe_25 rfl 4 rfl ?_
      refine r_iload_n (pc' := 28) C dX9_canServe_27 rfl 1 rfl ?_
      refine r_iload (pc' := 30) C dX9_canServe_28 rfl 5 rfl ?_
      obtain ⟨r4, e5, h⟩ := bd h
      refine r_cS1 (pc' := 33) C (X9_has_ok  e5) mlX9_127 ceX9_has csX9_has rfl (Nat.le_of_ble_eq_true rfl) rfl (Nat.le_of_ble_eq_true rfl) dX9_canServe_30 rfl (kk := ?_)
      refine r_if_eq (tgt := 80) (pc' := 36) C dX9_canServe_33 rfl rfl (fun c6 => ?_) (fun c6 => ?_)
      · rw [if_pos c6] at h
        refine r_iconst (pc' := 81) C dX9_canServe_80 rfl kc_0 ?_
        refine r_iadd (pc' := 82) C dX9_canServe_81 rfl ?_
        refine r_istore (pc' := 84) (lv2 := [(4, .int (v4 + 0)), (0, .ref 149), (1, .int v1), (2, .int v2), (3, .int v3), (5, .int v5)]) C dX9_canServe_82 rfl (Nat.le_of_ble_eq_true rfl) rfl ?_
        refine r_iinc (pc' := 87) (v := v5 + 1) (lv2 := [(5, .int (v5 + 1)), (4, .int (v4 + 0)), (0, .ref 149), (1, .int v1), (2, .int v2), (3, .int v3)]) C dX9_canServe_84 rfl 5 rfl rfl (Nat.le_of_ble_eq_true rfl) rfl ?_
        refine r_goto (tgt := 16) C dX9_canServe_87 rfl ?_
        refine r_sub [2, 3, 4, 5, 1, 0] rfl ?_
        exact ih _ _ _ _ _ _ h Z C hE
      · rw [if_neg c6] at h
        refine r_iload_n (pc' := 37) C dX9_canServe_36 rfl 3 rfl ?_
        refine r_i2l (pc' := 38) C dX9_canServe_37 rfl rfl ?_
        refine r_aload_n (pc' := 39) C dX9_canServe_38 rfl 0 rfl ?_
        refine r_getR (pc' := 42) C flX9_43 sh_149 rfl dX9_canServe_39 rfl ?_
        refine r_iconst (pc' := 43) C dX9_canServe_42 rfl kc_4 ?_
        refine r_iload (pc' := 45) C dX9_canServe_43 rfl 5 rfl ?_
        refine r_imul (pc' := 46) C dX9_canServe_45 rfl ?_
        obtain ⟨q7, h⟩ := ck h
        refine r_iald (pc' := 47) C sh_156 (vin q7) dX9_canServe_46 rfl ?_
        refine r_i2l (pc' := 48) C dX9_canServe_47 rfl rfl ?_
        refine r_aload_n (pc' := 49) C dX9_canServe_48 rfl 0 rfl ?_
        refine r_getR (pc' := 52) C flX9_43 sh_149 rfl dX9_canServe_49 rfl ?_
        refine r_iconst (pc' := 53) C dX9_canServe_52 rfl kc_4 ?_
        refine r_iload (pc' := 55) C dX9_canServe_53 rfl 5 rfl ?_
        refine r_imul (pc' := 56) C dX9_canServe_55 rfl ?_
        refine r_iconst (pc' := 57) C dX9_canServe_56 rfl kc_1 ?_
        refine r_iadd (pc' := 58) C dX9_canServe_57 rfl ?_
        obtain ⟨q8, h⟩ := ck h
        refine r_iald (pc' := 59) C sh_156 (vin q8) dX9_canServe_58 rfl ?_
        refine r_i2l (pc' := 60) C dX9_canServe_59 rfl rfl ?_
        obtain ⟨r9, e10, h⟩ := bd h
        refine r_cS1 (pc' := 63) C (X9_in_ok  e10) mlX9_119 ceX9_in csX9_in rfl (Nat.le_of_ble_eq_true rfl) rfl (Nat.le_of_ble_eq_true rfl) dX9_canServe_60 rfl (kk := ?_)
        refine r_if_eq (tgt := 80) (pc' := 66) C dX9_canServe_63 rfl rfl (fun c11 => ?_) (fun c11 => ?_)
        · rw [if_pos c11] at h
          refine r_iconst (pc' := 81) C dX9_canServe_80 rfl kc_0 ?_
          refine r_iadd (pc' := 82) C dX9_canServe_81 rfl ?_
          refine r_istore (pc' := 84) (lv2 := [(4, .int (v4 + 0)), (0, .ref 149), (1, .int v1), (2, .int v2), (3, .int v3), (5, .int v5)]) C dX9_canServe_82 rfl (Nat.le_of_ble_eq_true rfl) rfl ?_
          refine r_iinc (pc' := 87) (v := v5 + 1) (lv2 := [(5, .int (v5 + 1)), (4, .int (v4 + 0)), (0, .ref 149), (1, .int v1), (2, .int v2), (3, .int v3)]) C dX9_canServe_84 rfl 5 rfl rfl (Nat.le_of_ble_eq_true rfl) rfl ?_
          refine r_goto (tgt := 16) C dX9_canServe_87 rfl ?_
          refine r_sub [2, 3, 4, 5, 1, 0] rfl ?_
          exact ih _ _ _ _ _ _ h Z C hE
        · rw [if_neg c11] at h
          refine r_aload_n (pc' := 67) C dX9_canServe_66 rfl 0 rfl ?_
          refine r_getR (pc' := 70) C flX9_43 sh_149 rfl dX9_canServe_67 rfl ?_
          refine r_iconst (pc' := 71) C dX9_canServe_70 rfl kc_4 ?_
          refine r_iload (pc' := 73) C dX9_canServe_71 rfl 5 rfl ?_
          refine r_imul (pc' := 74) C dX9_canServe_73 rfl ?_
          refine r_iconst (pc' := 75) C dX9_canServe_74 rfl kc_2 ?_
          refine r_iadd (pc' := 76) C dX9_canServe_75 rfl ?_
          obtain ⟨q12, h⟩ := ck h
          refine r_iald (pc' := 77) C sh_156 (vin q12) dX9_canServe_76 rfl ?_
          refine r_goto (tgt := 81) C dX9_canServe_77 rfl ?_
          refine r_iadd (pc' := 82) C dX9_canServe_81 rfl ?_
          refine r_istore (pc' := 84) (lv2 := [(4, .int (v4 + (gi σ 156 ((4 * v5) + 2).toNatClampNeg))), (0, .ref 149), (1, .int v1), (2, .int v2), (3, .int v3), (5, .int v5)]) C dX9_canServe_82 rfl (Nat.le_of_ble_eq_true rfl) rfl ?_
          refine r_iinc (pc' := 87) (v := v5 + 1) (lv2 := [(5, .int (v5 + 1)), (4, .int (v4 + (gi σ 156 ((4 * v5) + 2).toNatClampNeg))), (0, .ref 149), (1, .int v1), (2, .int v2), (3, .int v3)]) C dX9_canServe_84 rfl 5 rfl rfl (Nat.le_of_ble_eq_true rfl) rfl ?_
          refine r_goto (tgt := 16) C dX9_canServe_87 rfl ?_
          refine r_sub [2, 3, 4, 5, 1, 0] rfl ?_
          exact ih _ _ _ _ _ _ h Z C hE
def X9_canServe_j90 (N : Nat)  (kr : Int32 → Int32 → Int32 → Option (Int32)) (v1 : Int32) (v2 : Int32) (v3 : Int32) (v4 : Int32) (σ : Sg) : Option (Int32) :=
  if v2 = 0 then (kr v1 0 (v3 + 1)) else (if inb 33 37 = true then if (gi σ 153 (33 : Int32).toNatClampNeg) < v4 then (kr v1 0 (v3 + 1)) else (kr v1 1 (v3 + 1)) else none)
set_option maxRecDepth 100000 in
set_option maxHeartbeats 4000000 in
theorem X9_canServe_j90_ok {E : Ev}  {N : Nat} {kr : Int32 → Int32 → Int32 → Option (Int32)} {σ : Sg}  (hkr : ∀ (v1 : Int32) (v2 : Int32) (v3 : Int32) (r : Int32), kr v1 v2 v3 = some r → Gp E RX9 cX9_canServe (some .boolean) 6 (1) SH0 σ (some (.int r)) σ 4 [(0, .ref 149), (1, .int v1), (2, .int v2), (3, .int v3)] []) {v1 : Int32} {v2 : Int32} {v3 : Int32} {v4 : Int32} {r : Int32} (h : X9_canServe_j90 N  kr v1 v2 v3 v4 σ = some r) : Gp E RX9 cX9_canServe (some .boolean) 6 (1) SH0 σ (some (.int r)) σ 90 [(0, .ref 149), (1, .int v1), (2, .int v2), (3, .int v3), (4, .int v4)] [] := by
  intro Z C hE
  unfold X9_canServe_j90 at h
  refine r_iload_n (pc' := 91) C dX9_canServe_90 rfl 2 rfl ?_
  refine r_if_eq (tgt := 110) (pc' := 94) C dX9_canServe_91 rfl rfl (fun c13 => ?_) (fun c13 => ?_)
  · rw [if_pos c13] at h
    refine r_iconst (pc' := 111) C dX9_canServe_110 rfl kc_0 ?_
    refine r_istore_n (pc' := 112) (lv2 := [(2, .int 0), (0, .ref 149), (1, .int v1), (3, .int v3), (4, .int v4)]) C dX9_canServe_111 rfl rfl (Nat.le_of_ble_eq_true rfl) rfl ?_
    refine r_iinc (pc' := 115) (v := v3 + 1) (lv2 := [(3, .int (v3 + 1)), (2, .int 0), (0, .ref 149), (1, .int v1), (4, .int v4)]) C dX9_canServe_112 rfl 3 rfl rfl (Nat.le_of_ble_eq_true rfl) rfl ?_
    refine r_goto (tgt := 4) C dX9_canServe_115 rfl ?_
    refine r_sub [2, 3, 1, 0] rfl ?_
    exact hkr _ _ _ _ h Z C hE
  · rw [if_neg c13] at h
    refine r_iload (pc' := 96) C dX9_canServe_94 rfl 4 rfl ?_
    refine r_aload_n (pc' := 97) C dX9_canServe_96 rfl 0 rfl ?_
    refine r_getR (pc' := 100) C flX9_34 sh_149 rfl dX9_canServe_97 rfl ?_
    refine r_bipush (pc' := 102) C dX9_canServe_100 rfl kb_33 ?_
    obtain ⟨q14, h⟩ := ck h
    refine r_iald (pc' := 103) C sh_153 (vin q14) dX9_canServe_102 rfl ?_
    refine r_icmp_gt (tgt := 110) (pc' := 106) C dX9_canServe_103 rfl rfl (fun c15 => ?_) (fun c15 => ?_)
    · rw [if_pos c15] at h
      refine r_iconst (pc' := 111) C dX9_canServe_110 rfl kc_0 ?_
      refine r_istore_n (pc' := 112) (lv2 := [(2, .int 0), (0, .ref 149), (1, .int v1), (3, .int v3), (4, .int v4)]) C dX9_canServe_111 rfl rfl (Nat.le_of_ble_eq_true rfl) rfl ?_
      refine r_iinc (pc' := 115) (v := v3 + 1) (lv2 := [(3, .int (v3 + 1)), (2, .int 0), (0, .ref 149), (1, .int v1), (4, .int v4)]) C dX9_canServe_112 rfl 3 rfl rfl (Nat.le_of_ble_eq_true rfl) rfl ?_
      refine r_goto (tgt := 4) C dX9_canServe_115 rfl ?_
      refine r_sub [2, 3, 1, 0] rfl ?_
      exact hkr _ _ _ _ h Z C hE
    · rw [if_neg c15] at h
      refine r_iconst (pc' := 107) C dX9_canServe_106 rfl kc_1 ?_
      refine r_goto (tgt := 111) C dX9_canServe_107 rfl ?_
      refine r_istore_n (pc' := 112) (lv2 := [(2, .int 1), (0, .ref 149), (1, .int v1), (3, .int v3), (4, .int v4)]) C dX9_canServe_111 rfl rfl (Nat.le_of_ble_eq_true rfl) rfl ?_
      refine r_iinc (pc' := 115) (v := v3 + 1) (lv2 := [(3, .int (v3 + 1)), (2, .int 1), (0, .ref 149), (1, .int v1), (4, .int v4)]) C dX9_canServe_112 rfl 3 rfl rfl (Nat.le_of_ble_eq_true rfl) rfl ?_
      refine r_goto (tgt := 4) C dX9_canServe_115 rfl ?_
      refine r_sub [2, 3, 1, 0] rfl ?_
      exact hkr _ _ _ _ h Z C hE
def X9_canServe_l4 (N : Nat)   (σ : Sg) : Nat → Int32 → Int32 → Int32 → Option (Int32)
  | 0, _, _, _ => none
  | n + 1, v1, v2, v3 =>
    if 9 < v3 then (if isB v2 = true then some v2 else none) else (X9_canServe_l16 N (fun v1 v2 v3 v4 => X9_canServe_j90 N (fun v1 v2 v3 => X9_canServe_l4 N σ n v1 v2 v3) v1 v2 v3 v4 σ) σ N v1 v2 v3 0 0)
set_option maxRecDepth 100000 in
set_option maxHeartbeats 4000000 in
theorem X9_canServe_l4_ok {E : Ev}  {N : Nat}  {σ : Sg}  : ∀ (n : Nat) (v1 : Int32) (v2 : Int32) (v3 : Int32) (r : Int32), X9_canServe_l4 N σ n v1 v2 v3 = some r → Gp E RX9 cX9_canServe (some .boolean) 6 (1) SH0 σ (some (.int r)) σ 4 [(0, .ref 149), (1, .int v1), (2, .int v2), (3, .int v3)] [] := by
  intro n
  induction n with
  | zero => intro v1 v2 v3 r h; cases h
  | succ n ih =>
    intro v1 v2 v3 r h Z C hE
    unfold X9_canServe_l4 at h
    refine r_iload_n (pc' := 5) C dX9_canServe_4 rfl 3 rfl ?_
    refine r_bipush (pc' := 7) C dX9_canServe_5 rfl kb_9 ?_
    refine r_icmp_gt (tgt := 118) (pc' := 10) C dX9_canServe_7 rfl rfl (fun c1 => ?_) (fun c1 => ?_)
    · rw [if_pos c1] at h
      refine r_iload_n (pc' := 119) C dX9_canServe_118 rfl 2 rfl ?_
      obtain ⟨q2, h⟩ := ck h
      have h := Option.some.inj h
      subst h
      exact r_ret C (nisB q2) dX9_canServe_119 hE
    · rw [if_neg c1] at h
      refine r_iconst (pc' := 11) C dX9_canServe_10 rfl kc_0 ?_
      refine r_istore (pc' := 13) (lv2 := [(4, .int 0), (0, .ref 149), (1, .int v1), (2, .int v2), (3, .int v3)]) C dX9_canServe_11 rfl (Nat.le_of_ble_eq_true rfl) rfl ?_
      refine r_iconst (pc' := 14) C dX9_canServe_13 rfl kc_0 ?_
      refine r_istore (pc' := 16) (lv2 := [(5, .int 0), (4, .int 0), (0, .ref 149), (1, .int v1), (2, .int v2), (3, .int v3)]) C dX9_canServe_14 rfl (Nat.le_of_ble_eq_true rfl) rfl ?_
      refine r_sub [2, 3, 4, 5, 1, 0] rfl ?_
      exact X9_canServe_l16_ok  (fun _ _ _ _ _ h Z C hE => by exact X9_canServe_j90_ok  ih h Z C hE) N _ _ _ _ _ _ h Z C hE
def X9_canServe (N : Nat)  (v1 : Int32) (σ : Sg) : Option (Int32) :=
  X9_canServe_l4 N σ N v1 1 0
set_option maxRecDepth 100000 in
set_option maxHeartbeats 4000000 in
theorem X9_canServe_ok {E : Ev}  {N : Nat} {v1 : Int32} {σ : Sg} {r : Int32} (h : X9_canServe N  v1 σ = some r) : Cm E (1) yX9_canServe cX9_canServe 6 (some .boolean) [.ref 149, .int v1] SH0 SH0 σ σ (some (.int r)) 0 0 := by
  refine Cm.intro (by decide +kernel) (Nat.le_of_ble_eq_true rfl) (fun _ h => by obtain ⟨_, _, _, _, _, _, h⟩ := h; exact h) (fun Z C hE => ?_)
  show Wm E Z 0 0 SH0 σ 0 [(0, .ref 149), (1, .int v1)] []
  unfold X9_canServe at h
  refine r_iconst (pc' := 1) C dX9_canServe_0 rfl kc_1 ?_
  refine r_istore_n (pc' := 2) (lv2 := [(2, .int 1), (0, .ref 149), (1, .int v1)]) C dX9_canServe_1 rfl rfl (Nat.le_of_ble_eq_true rfl) rfl ?_
  refine r_iconst (pc' := 3) C dX9_canServe_2 rfl kc_0 ?_
  refine r_istore_n (pc' := 4) (lv2 := [(3, .int 0), (2, .int 1), (0, .ref 149), (1, .int v1)]) C dX9_canServe_3 rfl rfl (Nat.le_of_ble_eq_true rfl) rfl ?_
  refine r_sub [2, 3, 1, 0] rfl ?_
  exact X9_canServe_l4_ok  N _ _ _ _ h Z C hE

/-! BorrowedWeightModel.serves()I -/
def X9_serves_l21 (N : Nat)  (k52 : Int32 → Sg → Option (Int32 × Sg))  : Nat → Int32 → Int32 → Sg → Option (Int32 × Sg)
  | 0, _, _, _ => none
  | n + 1, v1, v2, σ =>
    if v2 = 0 then (k52 v1 σ) else ((X9_readsRequest N σ).bind fun r8 => (if r8.1 = 0 then (X9_serves_l21 N k52 n r8.1 0 r8.2) else ((X9_takes N 59 r8.2).bind fun r11 => (if r11.1 = 0 then (X9_serves_l21 N k52 n r8.1 0 r11.2) else (X9_serves_l21 N k52 n r8.1 1 r11.2)))))
set_option maxRecDepth 100000 in
set_option maxHeartbeats 4000000 in
theorem X9_serves_l21_ok {E : Ev}  {N : Nat} {k52 : Int32 → Sg → Option (Int32 × Sg)}  (hk52 : ∀ (v1 : Int32) (σ : Sg) (r : Int32 × Sg), k52 v1 σ = some r → Gp E RX9 cX9_serves (some .int) 7 (4) SH0 r.2 (some (.int r.1)) σ 52 [(0, .ref 149), (1, .int v1)] []) : ∀ (n : Nat) (v1 : Int32) (v2 : Int32) (σ : Sg) (r : Int32 × Sg), X9_serves_l21 N k52 n v1 v2 σ = some r → Gp E RX9 cX9_serves (some .int) 7 (4) SH0 r.2 (some (.int r.1)) σ 21 [(0, .ref 149), (1, .int v1), (2, .int v2)] [] := by
  intro n
  induction n with
  | zero => intro v1 v2 σ r h; cases h
  | succ n ih =>
    intro v1 v2 σ r h Z C hE
    unfold X9_serves_l21 at h
    refine r_iload_n (pc' := 22) C dX9_serves_21 rfl 2 rfl ?_
    refine r_if_eq (tgt := 52) (pc' := 25) C dX9_serves_22 rfl rfl (fun c7 => ?_) (fun c7 => ?_)
    · rw [if_pos c7] at h
      refine r_sub [0, 1] rfl ?_
      exact hk52 _ _ _ h Z C hE
    · rw [if_neg c7] at h
      refine r_aload_n (pc' := 26) C dX9_serves_25 rfl 0 rfl ?_
      obtain ⟨r8, e9, h⟩ := bd h
      refine r_cV1 (pc' := 29) C (X9_readsRequest_ok  e9) mlX9_370 ceX9_readsRequest cvX9_readsRequest sh_149 rfl rfl rfl (Nat.le_of_ble_eq_true rfl) rfl (Nat.le_of_ble_eq_true rfl) dX9_serves_26 rfl (kk := ?_)
      refine r_istore_n (pc' := 30) (lv2 := [(1, .int r8.1), (0, .ref 149), (2, .int v2)]) C dX9_serves_29 rfl rfl (Nat.le_of_ble_eq_true rfl) rfl ?_
      refine r_iload_n (pc' := 31) C dX9_serves_30 rfl 0 rfl ?_
      refine r_if_eq (tgt := 47) (pc' := 34) C dX9_serves_31 rfl rfl (fun c10 => ?_) (fun c10 => ?_)
      · rw [if_pos c10] at h
        refine r_iconst (pc' := 48) C dX9_serves_47 rfl kc_0 ?_
        refine r_istore_n (pc' := 49) (lv2 := [(2, .int 0), (1, .int r8.1), (0, .ref 149)]) C dX9_serves_48 rfl rfl (Nat.le_of_ble_eq_true rfl) rfl ?_
        refine r_goto (tgt := 21) C dX9_serves_49 rfl ?_
        refine r_sub [2, 1, 0] rfl ?_
        exact ih _ _ _ _ h Z C hE
      · rw [if_neg c10] at h
        refine r_aload_n (pc' := 35) C dX9_serves_34 rfl 1 rfl ?_
        refine r_bipush (pc' := 37) C dX9_serves_35 rfl kb_59 ?_
        obtain ⟨r11, e12, h⟩ := bd h
        refine r_cV1 (pc' := 40) C (X9_takes_ok  e12) mlX9_189 ceX9_takes cvX9_takes sh_149 rfl rfl rfl (Nat.le_of_ble_eq_true rfl) rfl (Nat.le_of_ble_eq_true rfl) dX9_serves_37 rfl (kk := ?_)
        refine r_if_eq (tgt := 47) (pc' := 43) C dX9_serves_40 rfl rfl (fun c13 => ?_) (fun c13 => ?_)
        · rw [if_pos c13] at h
          refine r_iconst (pc' := 48) C dX9_serves_47 rfl kc_0 ?_
          refine r_istore_n (pc' := 49) (lv2 := [(2, .int 0), (1, .int r8.1), (0, .ref 149)]) C dX9_serves_48 rfl rfl (Nat.le_of_ble_eq_true rfl) rfl ?_
          refine r_goto (tgt := 21) C dX9_serves_49 rfl ?_
          refine r_sub [2, 1, 0] rfl ?_
          exact ih _ _ _ _ h Z C hE
        · rw [if_neg c13] at h
          refine r_iconst (pc' := 44) C dX9_serves_43 rfl kc_1 ?_
          refine r_goto (tgt := 48) C dX9_serves_44 rfl ?_
          refine r_istore_n (pc' := 49) (lv2 := [(2, .int 1), (1, .int r8.1), (0, .ref 149)]) C dX9_serves_48 rfl rfl (Nat.le_of_ble_eq_true rfl) rfl ?_
          refine r_goto (tgt := 21) C dX9_serves_49 rfl ?_
          refine r_sub [2, 1, 0] rfl ?_
          exact ih _ _ _ _ h Z C hE
def X9_serves_j131 (N : Nat)  (kr : Int32 → Int32 → Sg → Option (Int32 × Sg)) (v3 : Int32) (v4 : Int32) (s0 : Int32) (σ : Sg) : Option (Int32 × Sg) :=
  if s0 = 0 then (kr v3 (v4 + 1) σ) else ((X9_canServe N v4 σ).bind fun r23 => (if r23 = 0 then (kr v3 (v4 + 1) σ) else (kr v4 (v4 + 1) σ)))
set_option maxRecDepth 100000 in
set_option maxHeartbeats 4000000 in
theorem X9_serves_j131_ok {E : Ev}  {N : Nat} {kr : Int32 → Int32 → Sg → Option (Int32 × Sg)}  (hkr : ∀ (v3 : Int32) (v4 : Int32) (σ : Sg) (r : Int32 × Sg), kr v3 v4 σ = some r → Gp E RX9 cX9_serves (some .int) 7 (4) SH0 r.2 (some (.int r.1)) σ 79 [(0, .ref 149), (3, .int v3), (4, .int v4)] []) {v3 : Int32} {v4 : Int32} {s0 : Int32} {σ : Sg} {r : Int32 × Sg} (h : X9_serves_j131 N  kr v3 v4 s0 σ = some r) : Gp E RX9 cX9_serves (some .int) 7 (4) SH0 r.2 (some (.int r.1)) σ 131 [(0, .ref 149), (3, .int v3), (4, .int v4)] [.int s0] := by
  intro Z C hE
  unfold X9_serves_j131 at h
  refine r_istore (pc' := 133) (lv2 := [(6, .int s0), (0, .ref 149), (3, .int v3), (4, .int v4)]) C dX9_serves_131 rfl (Nat.le_of_ble_eq_true rfl) rfl ?_
  refine r_iload (pc' := 135) C dX9_serves_133 rfl 0 rfl ?_
  refine r_if_eq (tgt := 152) (pc' := 138) C dX9_serves_135 rfl rfl (fun c22 => ?_) (fun c22 => ?_)
  · rw [if_pos c22] at h
    refine r_iload_n (pc' := 153) C dX9_serves_152 rfl 2 rfl ?_
    refine r_istore_n (pc' := 154) (lv2 := [(3, .int v3), (6, .int s0), (0, .ref 149), (4, .int v4)]) C dX9_serves_153 rfl rfl (Nat.le_of_ble_eq_true rfl) rfl ?_
    refine r_iinc (pc' := 157) (v := v4 + 1) (lv2 := [(4, .int (v4 + 1)), (3, .int v3), (6, .int s0), (0, .ref 149)]) C dX9_serves_154 rfl 3 rfl rfl (Nat.le_of_ble_eq_true rfl) rfl ?_
    refine r_goto (tgt := 79) C dX9_serves_157 rfl ?_
    refine r_sub [3, 1, 0] rfl ?_
    exact hkr _ _ _ _ h Z C hE
  · rw [if_neg c22] at h
    refine r_aload_n (pc' := 139) C dX9_serves_138 rfl 1 rfl ?_
    refine r_iload (pc' := 141) C dX9_serves_139 rfl 3 rfl ?_
    obtain ⟨r23, e24, h⟩ := bd h
    refine r_cV1 (pc' := 144) C (X9_canServe_ok  e24) mlX9_376 ceX9_canServe cvX9_canServe sh_149 rfl rfl rfl (Nat.le_of_ble_eq_true rfl) rfl (Nat.le_of_ble_eq_true rfl) dX9_serves_141 rfl (kk := ?_)
    refine r_if_eq (tgt := 152) (pc' := 147) C dX9_serves_144 rfl rfl (fun c25 => ?_) (fun c25 => ?_)
    · rw [if_pos c25] at h
      refine r_iload_n (pc' := 153) C dX9_serves_152 rfl 2 rfl ?_
      refine r_istore_n (pc' := 154) (lv2 := [(3, .int v3), (6, .int s0), (0, .ref 149), (4, .int v4)]) C dX9_serves_153 rfl rfl (Nat.le_of_ble_eq_true rfl) rfl ?_
      refine r_iinc (pc' := 157) (v := v4 + 1) (lv2 := [(4, .int (v4 + 1)), (3, .int v3), (6, .int s0), (0, .ref 149)]) C dX9_serves_154 rfl 3 rfl rfl (Nat.le_of_ble_eq_true rfl) rfl ?_
      refine r_goto (tgt := 79) C dX9_serves_157 rfl ?_
      refine r_sub [3, 1, 0] rfl ?_
      exact hkr _ _ _ _ h Z C hE
    · rw [if_neg c25] at h
      refine r_iload (pc' := 149) C dX9_serves_147 rfl 3 rfl ?_
      refine r_goto (tgt := 153) C dX9_serves_149 rfl ?_
      refine r_istore_n (pc' := 154) (lv2 := [(3, .int v4), (6, .int s0), (0, .ref 149), (4, .int v4)]) C dX9_serves_153 rfl rfl (Nat.le_of_ble_eq_true rfl) rfl ?_
      refine r_iinc (pc' := 157) (v := v4 + 1) (lv2 := [(4, .int (v4 + 1)), (3, .int v4), (6, .int s0), (0, .ref 149)]) C dX9_serves_154 rfl 3 rfl rfl (Nat.le_of_ble_eq_true rfl) rfl ?_
      refine r_goto (tgt := 79) C dX9_serves_157 rfl ?_
      refine r_sub [3, 1, 0] rfl ?_
      exact hkr _ _ _ _ h Z C hE
def X9_serves_l79 (N : Nat)  (k160 : Int32 → Sg → Option (Int32 × Sg))  : Nat → Int32 → Int32 → Sg → Option (Int32 × Sg)
  | 0, _, _, _ => none
  | n + 1, v3, v4, σ =>
    if (1 <<< ((gi σ 149 16) &&& 31)) ≤ v4 then (k160 v3 σ) else ((X9_priceOf N v4 σ).bind fun r17 => ((X9_priceOf N v3 σ).bind fun r19 => (if 0 < (r17 - r19) then (X9_serves_j131 N (fun v3 v4 σ => X9_serves_l79 N k160 n v3 v4 σ) v3 v4 1 σ) else (if (r17 - r19) = 0 then ((J6_bitCount_0f7a4 N v4 σ).bind fun r27 => ((J6_bitCount_0f7a4 N v3 σ).bind fun r29 => (if r29 ≤ r27 then (X9_serves_j131 N (fun v3 v4 σ => X9_serves_l79 N k160 n v3 v4 σ) v3 v4 0 σ) else (X9_serves_j131 N (fun v3 v4 σ => X9_serves_l79 N k160 n v3 v4 σ) v3 v4 1 σ)))) else (X9_serves_j131 N (fun v3 v4 σ => X9_serves_l79 N k160 n v3 v4 σ) v3 v4 0 σ)))))
set_option maxRecDepth 100000 in
set_option maxHeartbeats 4000000 in
theorem X9_serves_l79_ok {E : Ev}  {N : Nat} {k160 : Int32 → Sg → Option (Int32 × Sg)}  (hk160 : ∀ (v3 : Int32) (σ : Sg) (r : Int32 × Sg), k160 v3 σ = some r → Gp E RX9 cX9_serves (some .int) 7 (4) SH0 r.2 (some (.int r.1)) σ 160 [(0, .ref 149), (3, .int v3)] []) : ∀ (n : Nat) (v3 : Int32) (v4 : Int32) (σ : Sg) (r : Int32 × Sg), X9_serves_l79 N k160 n v3 v4 σ = some r → Gp E RX9 cX9_serves (some .int) 7 (4) SH0 r.2 (some (.int r.1)) σ 79 [(0, .ref 149), (3, .int v3), (4, .int v4)] [] := by
  intro n
  induction n with
  | zero => intro v3 v4 σ r h; cases h
  | succ n ih =>
    intro v3 v4 σ r h Z C hE
    unfold X9_serves_l79 at h
    refine r_iload (pc' := 81) C dX9_serves_79 rfl 2 rfl ?_
    refine r_iconst (pc' := 82) C dX9_serves_81 rfl kc_1 ?_
    refine r_aload_n (pc' := 83) C dX9_serves_82 rfl 0 rfl ?_
    refine r_getI (pc' := 86) C flX9_183 sh_149 rfl dX9_serves_83 rfl ?_
    refine r_ishl (pc' := 87) C dX9_serves_86 rfl ?_
    refine r_icmp_ge (tgt := 160) (pc' := 90) C dX9_serves_87 rfl rfl (fun c16 => ?_) (fun c16 => ?_)
    · rw [if_pos c16] at h
      refine r_sub [0, 1] rfl ?_
      exact hk160 _ _ _ h Z C hE
    · rw [if_neg c16] at h
      refine r_aload_n (pc' := 91) C dX9_serves_90 rfl 0 rfl ?_
      refine r_iload (pc' := 93) C dX9_serves_91 rfl 2 rfl ?_
      obtain ⟨r17, e18, h⟩ := bd h
      refine r_cV1 (pc' := 96) C (X9_priceOf_ok  e18) mlX9_373 ceX9_priceOf cvX9_priceOf sh_149 rfl rfl rfl (Nat.le_of_ble_eq_true rfl) rfl (Nat.le_of_ble_eq_true rfl) dX9_serves_93 rfl (kk := ?_)
      refine r_aload_n (pc' := 97) C dX9_serves_96 rfl 0 rfl ?_
      refine r_iload_n (pc' := 98) C dX9_serves_97 rfl 1 rfl ?_
      obtain ⟨r19, e20, h⟩ := bd h
      refine r_cV1 (pc' := 101) C (X9_priceOf_ok  e20) mlX9_373 ceX9_priceOf cvX9_priceOf sh_149 rfl rfl rfl (Nat.le_of_ble_eq_true rfl) rfl (Nat.le_of_ble_eq_true rfl) dX9_serves_98 rfl (kk := ?_)
      refine r_isub (pc' := 102) C dX9_serves_101 rfl ?_
      refine r_istore (pc' := 104) (lv2 := [(5, .int (r17 - r19)), (0, .ref 149), (3, .int v3), (4, .int v4)]) C dX9_serves_102 rfl (Nat.le_of_ble_eq_true rfl) rfl ?_
      refine r_iload (pc' := 106) C dX9_serves_104 rfl 0 rfl ?_
      refine r_if_gt (tgt := 126) (pc' := 109) C dX9_serves_106 rfl rfl (fun c21 => ?_) (fun c21 => ?_)
      · rw [if_pos c21] at h
        refine r_iconst (pc' := 127) C dX9_serves_126 rfl kc_1 ?_
        refine r_goto (tgt := 131) C dX9_serves_127 rfl ?_
        refine r_sub [1, 2, 3] rfl ?_
        exact X9_serves_j131_ok  ih h Z C hE
      · rw [if_neg c21] at h
        refine r_iload (pc' := 111) C dX9_serves_109 rfl 0 rfl ?_
        refine r_if_ne (tgt := 130) (pc' := 114) C dX9_serves_111 rfl rfl (fun c26 => ?_) (fun c26 => ?_)
        · rw [if_neg c26] at h
          refine r_iconst (pc' := 131) C dX9_serves_130 rfl kc_0 ?_
          refine r_sub [1, 2, 3] rfl ?_
          exact X9_serves_j131_ok  ih h Z C hE
        · rw [if_pos c26] at h
          refine r_iload (pc' := 116) C dX9_serves_114 rfl 3 rfl ?_
          obtain ⟨r27, e28, h⟩ := bd h
          refine r_cS1 (pc' := 119) C (J6_bitCount_0f7a4_ok  e28) mlX9_135 ceJ6_bitCount_0f7a4 csJ6_bitCount_0f7a4 rfl (Nat.le_of_ble_eq_true rfl) rfl (Nat.le_of_ble_eq_true rfl) dX9_serves_116 rfl (kk := ?_)
          refine r_iload_n (pc' := 120) C dX9_serves_119 rfl 2 rfl ?_
          obtain ⟨r29, e30, h⟩ := bd h
          refine r_cS1 (pc' := 123) C (J6_bitCount_0f7a4_ok  e30) mlX9_135 ceJ6_bitCount_0f7a4 csJ6_bitCount_0f7a4 rfl (Nat.le_of_ble_eq_true rfl) rfl (Nat.le_of_ble_eq_true rfl) dX9_serves_120 rfl (kk := ?_)
          refine r_icmp_ge (tgt := 130) (pc' := 126) C dX9_serves_123 rfl rfl (fun c31 => ?_) (fun c31 => ?_)
          · rw [if_pos c31] at h
            refine r_iconst (pc' := 131) C dX9_serves_130 rfl kc_0 ?_
            refine r_sub [1, 2, 3] rfl ?_
            exact X9_serves_j131_ok  ih h Z C hE
          · rw [if_neg c31] at h
            refine r_iconst (pc' := 127) C dX9_serves_126 rfl kc_1 ?_
            refine r_goto (tgt := 131) C dX9_serves_127 rfl ?_
            refine r_sub [1, 2, 3] rfl ?_
            exact X9_serves_j131_ok  ih h Z C hE
def X9_serves_j160 (N : Nat)   (v3 : Int32) (σ : Sg) : Option (Int32 × Sg) :=
  bnS (wi σ 149 1 0) fun σ32 => (X9_enters N v3.toInt64 σ32).bind fun r34 => ((X9_priceOf N v3 r34).bind fun r36 => (some (r36, r34)))
set_option maxRecDepth 100000 in
set_option maxHeartbeats 4000000 in
theorem X9_serves_j160_ok {E : Ev}  {N : Nat}    {v3 : Int32} {σ : Sg} {r : Int32 × Sg} (h : X9_serves_j160 N   v3 σ = some r) : Gp E RX9 cX9_serves (some .int) 7 (4) SH0 r.2 (some (.int r.1)) σ 160 [(0, .ref 149), (3, .int v3)] [] := by
  intro Z C hE
  unfold X9_serves_j160 at h
  refine r_aload_n (pc' := 161) C dX9_serves_160 rfl 0 rfl ?_
  refine r_iconst (pc' := 162) C dX9_serves_161 rfl kc_0 ?_
  obtain ⟨σ32, e33, h⟩ := bs h
  refine r_putI (pc' := 165) (σ1 := σ32) C fpX9_15 sh_149 rfl rfl rfl dX9_serves_162 rfl e33 ?_
  refine r_aload_n (pc' := 166) C dX9_serves_165 rfl 0 rfl ?_
  refine r_iload_n (pc' := 167) C dX9_serves_166 rfl 1 rfl ?_
  refine r_i2l (pc' := 168) C dX9_serves_167 rfl rfl ?_
  obtain ⟨r34, e35, h⟩ := bd h
  refine r_cV0 (pc' := 171) C (X9_enters_ok  e35) mlX9_327 ceX9_enters cvX9_enters sh_149 rfl rfl rfl (Nat.le_of_ble_eq_true rfl) rfl (Nat.le_of_ble_eq_true rfl) dX9_serves_168 rfl (kk := ?_)
  refine r_aload_n (pc' := 172) C dX9_serves_171 rfl 0 rfl ?_
  refine r_iload_n (pc' := 173) C dX9_serves_172 rfl 1 rfl ?_
  obtain ⟨r36, e37, h⟩ := bd h
  refine r_cV1 (pc' := 176) C (X9_priceOf_ok  e37) mlX9_373 ceX9_priceOf cvX9_priceOf sh_149 rfl rfl rfl (Nat.le_of_ble_eq_true rfl) rfl (Nat.le_of_ble_eq_true rfl) dX9_serves_173 rfl (kk := ?_)
  have h := Option.some.inj h
  subst h
  exact r_ret C rfl dX9_serves_176 hE
def X9_serves_j52 (N : Nat)   (v1 : Int32) (σ : Sg) : Option (Int32 × Sg) :=
  if v1 = 0 then (some ((-1) - (gi σ 149 12), σ)) else (if (gi σ 149 13) ≤ (gi σ 149 12) then (X9_serves_l79 N (fun v3 σ => X9_serves_j160 N v3 σ) N 0 1 σ) else (some ((-1) - (gi σ 149 12), σ)))
set_option maxRecDepth 100000 in
set_option maxHeartbeats 4000000 in
theorem X9_serves_j52_ok {E : Ev}  {N : Nat}    {v1 : Int32} {σ : Sg} {r : Int32 × Sg} (h : X9_serves_j52 N   v1 σ = some r) : Gp E RX9 cX9_serves (some .int) 7 (4) SH0 r.2 (some (.int r.1)) σ 52 [(0, .ref 149), (1, .int v1)] [] := by
  intro Z C hE
  unfold X9_serves_j52 at h
  refine r_iload_n (pc' := 53) C dX9_serves_52 rfl 1 rfl ?_
  refine r_if_eq (tgt := 67) (pc' := 56) C dX9_serves_53 rfl rfl (fun c14 => ?_) (fun c14 => ?_)
  · rw [if_pos c14] at h
    refine r_iconst (pc' := 68) C dX9_serves_67 rfl kc_m1 ?_
    refine r_aload_n (pc' := 69) C dX9_serves_68 rfl 0 rfl ?_
    refine r_getI (pc' := 72) C flX9_144 sh_149 rfl dX9_serves_69 rfl ?_
    refine r_isub (pc' := 73) C dX9_serves_72 rfl ?_
    have h := Option.some.inj h
    subst h
    exact r_ret C rfl dX9_serves_73 hE
  · rw [if_neg c14] at h
    refine r_aload_n (pc' := 57) C dX9_serves_56 rfl 0 rfl ?_
    refine r_getI (pc' := 60) C flX9_144 sh_149 rfl dX9_serves_57 rfl ?_
    refine r_aload_n (pc' := 61) C dX9_serves_60 rfl 0 rfl ?_
    refine r_getI (pc' := 64) C flX9_156 sh_149 rfl dX9_serves_61 rfl ?_
    refine r_icmp_ge (tgt := 74) (pc' := 67) C dX9_serves_64 rfl rfl (fun c15 => ?_) (fun c15 => ?_)
    · rw [if_pos c15] at h
      refine r_iconst (pc' := 75) C dX9_serves_74 rfl kc_0 ?_
      refine r_istore_n (pc' := 76) (lv2 := [(3, .int 0), (0, .ref 149), (1, .int v1)]) C dX9_serves_75 rfl rfl (Nat.le_of_ble_eq_true rfl) rfl ?_
      refine r_iconst (pc' := 77) C dX9_serves_76 rfl kc_1 ?_
      refine r_istore (pc' := 79) (lv2 := [(4, .int 1), (3, .int 0), (0, .ref 149), (1, .int v1)]) C dX9_serves_77 rfl (Nat.le_of_ble_eq_true rfl) rfl ?_
      refine r_sub [2, 1, 0] rfl ?_
      exact X9_serves_l79_ok  (fun _ _ _ h Z C hE => by exact X9_serves_j160_ok  h Z C hE) N _ _ _ _ h Z C hE
    · rw [if_neg c15] at h
      refine r_iconst (pc' := 68) C dX9_serves_67 rfl kc_m1 ?_
      refine r_aload_n (pc' := 69) C dX9_serves_68 rfl 0 rfl ?_
      refine r_getI (pc' := 72) C flX9_144 sh_149 rfl dX9_serves_69 rfl ?_
      refine r_isub (pc' := 73) C dX9_serves_72 rfl ?_
      have h := Option.some.inj h
      subst h
      exact r_ret C rfl dX9_serves_73 hE
def X9_serves (N : Nat)   (σ : Sg) : Option (Int32 × Sg) :=
  bnS (wi σ 149 0 0) fun σ1 => (X9_begins N 80 σ1).bind fun r3 => (bnS (wi r3.2 149 16 0) fun σ5 => X9_serves_l21 N (fun v1 σ => X9_serves_j52 N v1 σ) N 1 1 σ5)
set_option maxRecDepth 100000 in
set_option maxHeartbeats 4000000 in
theorem X9_serves_ok {E : Ev}  {N : Nat}  {σ : Sg} {r : Int32 × Sg} (h : X9_serves N   σ = some r) : Cm E (4) yX9_serves cX9_serves 7 (some .int) [.ref 149] SH0 SH0 σ r.2 (some (.int r.1)) 0 0 := by
  refine Cm.intro (by decide +kernel) (Nat.le_of_ble_eq_true rfl) (fun _ h => by obtain ⟨_, _, _, _, _, _, h⟩ := h; exact h) (fun Z C hE => ?_)
  show Wm E Z 0 0 SH0 σ 0 [(0, .ref 149)] []
  unfold X9_serves at h
  refine r_aload_n (pc' := 1) C dX9_serves_0 rfl 0 rfl ?_
  refine r_iconst (pc' := 2) C dX9_serves_1 rfl kc_0 ?_
  obtain ⟨σ1, e2, h⟩ := bs h
  refine r_putI (pc' := 5) (σ1 := σ1) C fpX9_3 sh_149 rfl rfl rfl dX9_serves_2 rfl e2 ?_
  refine r_aload_n (pc' := 6) C dX9_serves_5 rfl 0 rfl ?_
  refine r_bipush (pc' := 8) C dX9_serves_6 rfl kb_80 ?_
  obtain ⟨r3, e4, h⟩ := bd h
  refine r_cV1 (pc' := 11) C (X9_begins_ok  e4) mlX9_180 ceX9_begins cvX9_begins sh_149 rfl rfl rfl (Nat.le_of_ble_eq_true rfl) rfl (Nat.le_of_ble_eq_true rfl) dX9_serves_8 rfl (kk := ?_)
  refine r_pop (pc' := 12) C dX9_serves_11 rfl rfl ?_
  refine r_aload_n (pc' := 13) C dX9_serves_12 rfl 0 rfl ?_
  refine r_iconst (pc' := 14) C dX9_serves_13 rfl kc_0 ?_
  obtain ⟨σ5, e6, h⟩ := bs h
  refine r_putI (pc' := 17) (σ1 := σ5) C fpX9_183 sh_149 rfl rfl rfl dX9_serves_14 rfl e6 ?_
  refine r_iconst (pc' := 18) C dX9_serves_17 rfl kc_1 ?_
  refine r_istore_n (pc' := 19) (lv2 := [(1, .int 1), (0, .ref 149)]) C dX9_serves_18 rfl rfl (Nat.le_of_ble_eq_true rfl) rfl ?_
  refine r_iconst (pc' := 20) C dX9_serves_19 rfl kc_1 ?_
  refine r_istore_n (pc' := 21) (lv2 := [(2, .int 1), (1, .int 1), (0, .ref 149)]) C dX9_serves_20 rfl rfl (Nat.le_of_ble_eq_true rfl) rfl ?_
  refine r_sub [2, 1, 0] rfl ?_
  exact X9_serves_l21_ok  (fun _ _ _ h Z C hE => by exact X9_serves_j52_ok  h Z C hE) N _ _ _ _ h Z C hE

/-! BorrowedWeightModel.owes(I)I -/
def X9_owes_l46 (N : Nat)  (k87 : Int32 → Sg → Option (Int32 × Sg))  : Nat → Int32 → Int32 → Sg → Option (Int32 × Sg)
  | 0, _, _, _ => none
  | n + 1, v2, v3, σ =>
    if (gi σ 149 3) ≤ v3 then (k87 v2 σ) else (if inb (16 + v3) 37 = true then if inb (16 + v2) 37 = true then if (gi σ 154 (16 + v3).toNatClampNeg) ≤ (gi σ 154 (16 + v2).toNatClampNeg) then (X9_owes_l46 N k87 n v2 (v3 + 1) σ) else (X9_owes_l46 N k87 n v3 (v3 + 1) σ) else none else none)
set_option maxRecDepth 100000 in
set_option maxHeartbeats 4000000 in
theorem X9_owes_l46_ok {E : Ev}  {N : Nat} {k87 : Int32 → Sg → Option (Int32 × Sg)}  (hk87 : ∀ (v2 : Int32) (σ : Sg) (r : Int32 × Sg), k87 v2 σ = some r → Gp E RX9 cX9_owes (some .int) 4 (9) SH0 r.2 (some (.int r.1)) σ 87 [(0, .ref 149), (2, .int v2)] []) : ∀ (n : Nat) (v2 : Int32) (v3 : Int32) (σ : Sg) (r : Int32 × Sg), X9_owes_l46 N k87 n v2 v3 σ = some r → Gp E RX9 cX9_owes (some .int) 4 (9) SH0 r.2 (some (.int r.1)) σ 46 [(0, .ref 149), (2, .int v2), (3, .int v3)] [] := by
  intro n
  induction n with
  | zero => intro v2 v3 σ r h; cases h
  | succ n ih =>
    intro v2 v3 σ r h Z C hE
    unfold X9_owes_l46 at h
    refine r_iload_n (pc' := 47) C dX9_owes_46 rfl 2 rfl ?_
    refine r_aload_n (pc' := 48) C dX9_owes_47 rfl 0 rfl ?_
    refine r_getI (pc' := 51) C flX9_116 sh_149 rfl dX9_owes_48 rfl ?_
    refine r_icmp_ge (tgt := 87) (pc' := 54) C dX9_owes_51 rfl rfl (fun c11 => ?_) (fun c11 => ?_)
    · rw [if_pos c11] at h
      refine r_sub [0, 1] rfl ?_
      exact hk87 _ _ _ h Z C hE
    · rw [if_neg c11] at h
      refine r_aload_n (pc' := 55) C dX9_owes_54 rfl 0 rfl ?_
      refine r_getR (pc' := 58) C flX9_37 sh_149 rfl dX9_owes_55 rfl ?_
      refine r_bipush (pc' := 60) C dX9_owes_58 rfl kb_16 ?_
      refine r_iload_n (pc' := 61) C dX9_owes_60 rfl 2 rfl ?_
      refine r_iadd (pc' := 62) C dX9_owes_61 rfl ?_
      obtain ⟨q12, h⟩ := ck h
      refine r_iald (pc' := 63) C sh_154 (vin q12) dX9_owes_62 rfl ?_
      refine r_aload_n (pc' := 64) C dX9_owes_63 rfl 0 rfl ?_
      refine r_getR (pc' := 67) C flX9_37 sh_149 rfl dX9_owes_64 rfl ?_
      refine r_bipush (pc' := 69) C dX9_owes_67 rfl kb_16 ?_
      refine r_iload_n (pc' := 70) C dX9_owes_69 rfl 1 rfl ?_
      refine r_iadd (pc' := 71) C dX9_owes_70 rfl ?_
      obtain ⟨q13, h⟩ := ck h
      refine r_iald (pc' := 72) C sh_154 (vin q13) dX9_owes_71 rfl ?_
      refine r_icmp_le (tgt := 79) (pc' := 75) C dX9_owes_72 rfl rfl (fun c14 => ?_) (fun c14 => ?_)
      · rw [if_pos c14] at h
        refine r_iload_n (pc' := 80) C dX9_owes_79 rfl 1 rfl ?_
        refine r_istore_n (pc' := 81) (lv2 := [(2, .int v2), (0, .ref 149), (3, .int v3)]) C dX9_owes_80 rfl rfl (Nat.le_of_ble_eq_true rfl) rfl ?_
        refine r_iinc (pc' := 84) (v := v3 + 1) (lv2 := [(3, .int (v3 + 1)), (2, .int v2), (0, .ref 149)]) C dX9_owes_81 rfl 2 rfl rfl (Nat.le_of_ble_eq_true rfl) rfl ?_
        refine r_goto (tgt := 46) C dX9_owes_84 rfl ?_
        refine r_sub [2, 1, 0] rfl ?_
        exact ih _ _ _ _ h Z C hE
      · rw [if_neg c14] at h
        refine r_iload_n (pc' := 76) C dX9_owes_75 rfl 2 rfl ?_
        refine r_goto (tgt := 80) C dX9_owes_76 rfl ?_
        refine r_istore_n (pc' := 81) (lv2 := [(2, .int v3), (0, .ref 149), (3, .int v3)]) C dX9_owes_80 rfl rfl (Nat.le_of_ble_eq_true rfl) rfl ?_
        refine r_iinc (pc' := 84) (v := v3 + 1) (lv2 := [(3, .int (v3 + 1)), (2, .int v3), (0, .ref 149)]) C dX9_owes_81 rfl 2 rfl rfl (Nat.le_of_ble_eq_true rfl) rfl ?_
        refine r_goto (tgt := 46) C dX9_owes_84 rfl ?_
        refine r_sub [2, 1, 0] rfl ?_
        exact ih _ _ _ _ h Z C hE
def X9_owes_j87 (N : Nat)   (v2 : Int32) (σ : Sg) : Option (Int32 × Sg) :=
  bnS (wi σ 149 1 0) fun σ15 => if inb (16 + v2) 37 = true then (X9_enters N ((gi σ15 154 (16 + v2).toNatClampNeg).toInt64) σ15).bind fun r18 => ((X9_all N r18).bind fun r20 => ((X9_sumOf N 154 16 r20 r18).bind fun r22 => ((X9_enters N r22.toInt64 r18).bind fun r24 => (some (v2, r24))))) else none
set_option maxRecDepth 100000 in
set_option maxHeartbeats 4000000 in
theorem X9_owes_j87_ok {E : Ev}  {N : Nat}    {v2 : Int32} {σ : Sg} {r : Int32 × Sg} (h : X9_owes_j87 N   v2 σ = some r) : Gp E RX9 cX9_owes (some .int) 4 (9) SH0 r.2 (some (.int r.1)) σ 87 [(0, .ref 149), (2, .int v2)] [] := by
  intro Z C hE
  unfold X9_owes_j87 at h
  refine r_aload_n (pc' := 88) C dX9_owes_87 rfl 0 rfl ?_
  refine r_iconst (pc' := 89) C dX9_owes_88 rfl kc_0 ?_
  obtain ⟨σ15, e16, h⟩ := bs h
  refine r_putI (pc' := 92) (σ1 := σ15) C fpX9_15 sh_149 rfl rfl rfl dX9_owes_89 rfl e16 ?_
  refine r_aload_n (pc' := 93) C dX9_owes_92 rfl 0 rfl ?_
  refine r_aload_n (pc' := 94) C dX9_owes_93 rfl 0 rfl ?_
  refine r_getR (pc' := 97) C flX9_37 sh_149 rfl dX9_owes_94 rfl ?_
  refine r_bipush (pc' := 99) C dX9_owes_97 rfl kb_16 ?_
  refine r_iload_n (pc' := 100) C dX9_owes_99 rfl 1 rfl ?_
  refine r_iadd (pc' := 101) C dX9_owes_100 rfl ?_
  obtain ⟨q17, h⟩ := ck h
  refine r_iald (pc' := 102) C sh_154 (vin q17) dX9_owes_101 rfl ?_
  refine r_i2l (pc' := 103) C dX9_owes_102 rfl rfl ?_
  obtain ⟨r18, e19, h⟩ := bd h
  refine r_cV0 (pc' := 106) C (X9_enters_ok  e19) mlX9_327 ceX9_enters cvX9_enters sh_149 rfl rfl rfl (Nat.le_of_ble_eq_true rfl) rfl (Nat.le_of_ble_eq_true rfl) dX9_owes_103 rfl (kk := ?_)
  refine r_aload_n (pc' := 107) C dX9_owes_106 rfl 0 rfl ?_
  refine r_aload_n (pc' := 108) C dX9_owes_107 rfl 0 rfl ?_
  refine r_aload_n (pc' := 109) C dX9_owes_108 rfl 0 rfl ?_
  refine r_getR (pc' := 112) C flX9_37 sh_149 rfl dX9_owes_109 rfl ?_
  refine r_bipush (pc' := 114) C dX9_owes_112 rfl kb_16 ?_
  refine r_aload_n (pc' := 115) C dX9_owes_114 rfl 0 rfl ?_
  obtain ⟨r20, e21, h⟩ := bd h
  refine r_cV1 (pc' := 118) C (X9_all_ok  e21) mlX9_131 ceX9_all cvX9_all sh_149 rfl rfl rfl (Nat.le_of_ble_eq_true rfl) rfl (Nat.le_of_ble_eq_true rfl) dX9_owes_115 rfl (kk := ?_)
  obtain ⟨r22, e23, h⟩ := bd h
  refine r_cV1 (pc' := 121) C (X9_sumOf_ok mac_154 e23) mlX9_274 ceX9_sumOf cvX9_sumOf sh_149 rfl rfl rfl (Nat.le_of_ble_eq_true rfl) rfl (Nat.le_of_ble_eq_true rfl) dX9_owes_118 rfl (kk := ?_)
  refine r_i2l (pc' := 122) C dX9_owes_121 rfl rfl ?_
  obtain ⟨r24, e25, h⟩ := bd h
  refine r_cV0 (pc' := 125) C (X9_enters_ok  e25) mlX9_327 ceX9_enters cvX9_enters sh_149 rfl rfl rfl (Nat.le_of_ble_eq_true rfl) rfl (Nat.le_of_ble_eq_true rfl) dX9_owes_122 rfl (kk := ?_)
  refine r_iload_n (pc' := 126) C dX9_owes_125 rfl 1 rfl ?_
  have h := Option.some.inj h
  subst h
  exact r_ret C rfl dX9_owes_126 hE
def X9_owes (N : Nat)  (v1 : Int32) (σ : Sg) : Option (Int32 × Sg) :=
  bnS (wi σ 149 0 0) fun σ1 => (X9_in N v1.toInt64 0 99 σ1).bind fun r3 => (if r3 = 0 then (some ((-1), σ1)) else (if (gi σ1 149 3) = 0 then (some ((-2), σ1)) else ((X9_copies N σ1).bind fun r7 => ((X9_goesOn N 154 v1 r7).bind fun r9 => (X9_owes_l46 N (fun v2 σ => X9_owes_j87 N v2 σ) N 0 1 r9)))))
set_option maxRecDepth 100000 in
set_option maxHeartbeats 4000000 in
theorem X9_owes_ok {E : Ev}  {N : Nat} {v1 : Int32} {σ : Sg} {r : Int32 × Sg} (h : X9_owes N  v1 σ = some r) : Cm E (9) yX9_owes cX9_owes 4 (some .int) [.ref 149, .int v1] SH0 SH0 σ r.2 (some (.int r.1)) 0 0 := by
  refine Cm.intro (by decide +kernel) (Nat.le_of_ble_eq_true rfl) (fun _ h => by obtain ⟨_, _, _, _, _, _, h⟩ := h; exact h) (fun Z C hE => ?_)
  show Wm E Z 0 0 SH0 σ 0 [(0, .ref 149), (1, .int v1)] []
  unfold X9_owes at h
  refine r_aload_n (pc' := 1) C dX9_owes_0 rfl 0 rfl ?_
  refine r_iconst (pc' := 2) C dX9_owes_1 rfl kc_0 ?_
  obtain ⟨σ1, e2, h⟩ := bs h
  refine r_putI (pc' := 5) (σ1 := σ1) C fpX9_3 sh_149 rfl rfl rfl dX9_owes_2 rfl e2 ?_
  refine r_iload_n (pc' := 6) C dX9_owes_5 rfl 1 rfl ?_
  refine r_i2l (pc' := 7) C dX9_owes_6 rfl rfl ?_
  refine r_lconst (pc' := 8) C dX9_owes_7 rfl kl_0 ?_
  refine r_ldc2 (pc' := 11) C cnX9_346 dX9_owes_8 rfl ?_
  obtain ⟨r3, e4, h⟩ := bd h
  refine r_cS1 (pc' := 14) C (X9_in_ok  e4) mlX9_119 ceX9_in csX9_in rfl (Nat.le_of_ble_eq_true rfl) rfl (Nat.le_of_ble_eq_true rfl) dX9_owes_11 rfl (kk := ?_)
  refine r_if_ne (tgt := 19) (pc' := 17) C dX9_owes_14 rfl rfl (fun c5 => ?_) (fun c5 => ?_)
  · rw [if_neg c5] at h
    refine r_aload_n (pc' := 20) C dX9_owes_19 rfl 0 rfl ?_
    refine r_getI (pc' := 23) C flX9_116 sh_149 rfl dX9_owes_20 rfl ?_
    refine r_if_ne (tgt := 29) (pc' := 26) C dX9_owes_23 rfl rfl (fun c6 => ?_) (fun c6 => ?_)
    · rw [if_neg c6] at h
      refine r_aload_n (pc' := 30) C dX9_owes_29 rfl 0 rfl ?_
      obtain ⟨r7, e8, h⟩ := bd h
      refine r_cV0 (pc' := 33) C (X9_copies_ok  e8) mlX9_362 ceX9_copies cvX9_copies sh_149 rfl rfl rfl (Nat.le_of_ble_eq_true rfl) rfl (Nat.le_of_ble_eq_true rfl) dX9_owes_30 rfl (kk := ?_)
      refine r_aload_n (pc' := 34) C dX9_owes_33 rfl 0 rfl ?_
      refine r_aload_n (pc' := 35) C dX9_owes_34 rfl 0 rfl ?_
      refine r_getR (pc' := 38) C flX9_37 sh_149 rfl dX9_owes_35 rfl ?_
      refine r_iload_n (pc' := 39) C dX9_owes_38 rfl 1 rfl ?_
      obtain ⟨r9, e10, h⟩ := bd h
      refine r_cV0 (pc' := 42) C (X9_goesOn_ok mac_154 e10) mlX9_324 ceX9_goesOn cvX9_goesOn sh_149 rfl rfl rfl (Nat.le_of_ble_eq_true rfl) rfl (Nat.le_of_ble_eq_true rfl) dX9_owes_39 rfl (kk := ?_)
      refine r_iconst (pc' := 43) C dX9_owes_42 rfl kc_0 ?_
      refine r_istore_n (pc' := 44) (lv2 := [(2, .int 0), (0, .ref 149), (1, .int v1)]) C dX9_owes_43 rfl rfl (Nat.le_of_ble_eq_true rfl) rfl ?_
      refine r_iconst (pc' := 45) C dX9_owes_44 rfl kc_1 ?_
      refine r_istore_n (pc' := 46) (lv2 := [(3, .int 1), (2, .int 0), (0, .ref 149), (1, .int v1)]) C dX9_owes_45 rfl rfl (Nat.le_of_ble_eq_true rfl) rfl ?_
      refine r_sub [2, 1, 0] rfl ?_
      exact X9_owes_l46_ok  (fun _ _ _ h Z C hE => by exact X9_owes_j87_ok  h Z C hE) N _ _ _ _ h Z C hE
    · rw [if_pos c6] at h
      refine r_bipush (pc' := 28) C dX9_owes_26 rfl kb_m2 ?_
      have h := Option.some.inj h
      subst h
      exact r_ret C rfl dX9_owes_28 hE
  · rw [if_pos c5] at h
    refine r_iconst (pc' := 18) C dX9_owes_17 rfl kc_m1 ?_
    have h := Option.some.inj h
    subst h
    exact r_ret C rfl dX9_owes_18 hE

/-! BorrowedWeightModel.seen(III)I -/
def X9_seen (N : Nat)  (v1 : Int32) (v2 : Int32) (v3 : Int32) (σ : Sg) : Option (Int32 × Sg) :=
  bnS (wi σ 149 0 0) fun σ1 => (X9_isThing N v1 σ1).bind fun r3 => (if r3 = 0 then (some ((-1), σ1)) else ((X9_in N v2.toInt64 0 20 σ1).bind fun r6 => (if r6 = 0 then (some ((-1), σ1)) else ((X9_in N v3.toInt64 0 1 σ1).bind fun r9 => (if r9 = 0 then (some ((-1), σ1)) else (if (gi σ1 149 35) = 10 then (some ((-1), σ1)) else (if inb (gi σ1 149 35) 10 = true then bnS (wi σ1 169 (gi σ1 149 35).toNatClampNeg v1) fun σ14 => if inb (gi σ14 149 35) 10 = true then bnS (wi σ14 170 (gi σ14 149 35).toNatClampNeg v2) fun σ17 => if inb (gi σ17 149 35) 10 = true then bnS (wi σ17 171 (gi σ17 149 35).toNatClampNeg v3) fun σ20 => bnS (wi σ20 149 35 ((gi σ20 149 35) + 1)) fun σ22 => some (gi σ22 149 35, σ22) else none else none else none)))))))
set_option maxRecDepth 100000 in
set_option maxHeartbeats 4000000 in
theorem X9_seen_ok {E : Ev}  {N : Nat} {v1 : Int32} {v2 : Int32} {v3 : Int32} {σ : Sg} {r : Int32 × Sg} (h : X9_seen N  v1 v2 v3 σ = some r) : Cm E (2) yX9_seen cX9_seen 4 (some .int) [.ref 149, .int v1, .int v2, .int v3] SH0 SH0 σ r.2 (some (.int r.1)) 0 0 := by
  refine Cm.intro (by decide +kernel) (Nat.le_of_ble_eq_true rfl) (fun _ h => by obtain ⟨_, _, _, _, _, _, h⟩ := h; exact h) (fun Z C hE => ?_)
  show Wm E Z 0 0 SH0 σ 0 [(0, .ref 149), (1, .int v1), (2, .int v2), (3, .int v3)] []
  unfold X9_seen at h
  refine r_aload_n (pc' := 1) C dX9_seen_0 rfl 0 rfl ?_
  refine r_iconst (pc' := 2) C dX9_seen_1 rfl kc_0 ?_
  obtain ⟨σ1, e2, h⟩ := bs h
  refine r_putI (pc' := 5) (σ1 := σ1) C fpX9_3 sh_149 rfl rfl rfl dX9_seen_2 rfl e2 ?_
  refine r_aload_n (pc' := 6) C dX9_seen_5 rfl 0 rfl ?_
  refine r_iload_n (pc' := 7) C dX9_seen_6 rfl 1 rfl ?_
  obtain ⟨r3, e4, h⟩ := bd h
  refine r_cV1 (pc' := 10) C (X9_isThing_ok  e4) mlX9_123 ceX9_isThing cvX9_isThing sh_149 rfl rfl rfl (Nat.le_of_ble_eq_true rfl) rfl (Nat.le_of_ble_eq_true rfl) dX9_seen_7 rfl (kk := ?_)
  refine r_if_eq (tgt := 44) (pc' := 13) C dX9_seen_10 rfl rfl (fun c5 => ?_) (fun c5 => ?_)
  · rw [if_pos c5] at h
    refine r_iconst (pc' := 45) C dX9_seen_44 rfl kc_m1 ?_
    have h := Option.some.inj h
    subst h
    exact r_ret C rfl dX9_seen_45 hE
  · rw [if_neg c5] at h
    refine r_iload_n (pc' := 14) C dX9_seen_13 rfl 2 rfl ?_
    refine r_i2l (pc' := 15) C dX9_seen_14 rfl rfl ?_
    refine r_lconst (pc' := 16) C dX9_seen_15 rfl kl_0 ?_
    refine r_ldc2 (pc' := 19) C cnX9_379 dX9_seen_16 rfl ?_
    obtain ⟨r6, e7, h⟩ := bd h
    refine r_cS1 (pc' := 22) C (X9_in_ok  e7) mlX9_119 ceX9_in csX9_in rfl (Nat.le_of_ble_eq_true rfl) rfl (Nat.le_of_ble_eq_true rfl) dX9_seen_19 rfl (kk := ?_)
    refine r_if_eq (tgt := 44) (pc' := 25) C dX9_seen_22 rfl rfl (fun c8 => ?_) (fun c8 => ?_)
    · rw [if_pos c8] at h
      refine r_iconst (pc' := 45) C dX9_seen_44 rfl kc_m1 ?_
      have h := Option.some.inj h
      subst h
      exact r_ret C rfl dX9_seen_45 hE
    · rw [if_neg c8] at h
      refine r_iload_n (pc' := 26) C dX9_seen_25 rfl 3 rfl ?_
      refine r_i2l (pc' := 27) C dX9_seen_26 rfl rfl ?_
      refine r_lconst (pc' := 28) C dX9_seen_27 rfl kl_0 ?_
      refine r_lconst (pc' := 29) C dX9_seen_28 rfl kl_1 ?_
      obtain ⟨r9, e10, h⟩ := bd h
      refine r_cS1 (pc' := 32) C (X9_in_ok  e10) mlX9_119 ceX9_in csX9_in rfl (Nat.le_of_ble_eq_true rfl) rfl (Nat.le_of_ble_eq_true rfl) dX9_seen_29 rfl (kk := ?_)
      refine r_if_eq (tgt := 44) (pc' := 35) C dX9_seen_32 rfl rfl (fun c11 => ?_) (fun c11 => ?_)
      · rw [if_pos c11] at h
        refine r_iconst (pc' := 45) C dX9_seen_44 rfl kc_m1 ?_
        have h := Option.some.inj h
        subst h
        exact r_ret C rfl dX9_seen_45 hE
      · rw [if_neg c11] at h
        refine r_aload_n (pc' := 36) C dX9_seen_35 rfl 0 rfl ?_
        refine r_getI (pc' := 39) C flX9_381 sh_149 rfl dX9_seen_36 rfl ?_
        refine r_bipush (pc' := 41) C dX9_seen_39 rfl kb_10 ?_
        refine r_icmp_ne (tgt := 46) (pc' := 44) C dX9_seen_41 rfl rfl (fun c12 => ?_) (fun c12 => ?_)
        · rw [if_neg c12] at h
          refine r_aload_n (pc' := 47) C dX9_seen_46 rfl 0 rfl ?_
          refine r_getR (pc' := 50) C flX9_82 sh_149 rfl dX9_seen_47 rfl ?_
          refine r_aload_n (pc' := 51) C dX9_seen_50 rfl 0 rfl ?_
          refine r_getI (pc' := 54) C flX9_381 sh_149 rfl dX9_seen_51 rfl ?_
          refine r_iload_n (pc' := 55) C dX9_seen_54 rfl 1 rfl ?_
          obtain ⟨q13, h⟩ := ck h
          obtain ⟨σ14, e15, h⟩ := bs h
          refine r_iast (pc' := 56) (σ1 := σ14) C sh_169 (vin q13) dX9_seen_55 rfl e15 ?_
          refine r_aload_n (pc' := 57) C dX9_seen_56 rfl 0 rfl ?_
          refine r_getR (pc' := 60) C flX9_85 sh_149 rfl dX9_seen_57 rfl ?_
          refine r_aload_n (pc' := 61) C dX9_seen_60 rfl 0 rfl ?_
          refine r_getI (pc' := 64) C flX9_381 sh_149 rfl dX9_seen_61 rfl ?_
          refine r_iload_n (pc' := 65) C dX9_seen_64 rfl 2 rfl ?_
          obtain ⟨q16, h⟩ := ck h
          obtain ⟨σ17, e18, h⟩ := bs h
          refine r_iast (pc' := 66) (σ1 := σ17) C sh_170 (vin q16) dX9_seen_65 rfl e18 ?_
          refine r_aload_n (pc' := 67) C dX9_seen_66 rfl 0 rfl ?_
          refine r_getR (pc' := 70) C flX9_88 sh_149 rfl dX9_seen_67 rfl ?_
          refine r_aload_n (pc' := 71) C dX9_seen_70 rfl 0 rfl ?_
          refine r_getI (pc' := 74) C flX9_381 sh_149 rfl dX9_seen_71 rfl ?_
          refine r_iload_n (pc' := 75) C dX9_seen_74 rfl 3 rfl ?_
          obtain ⟨q19, h⟩ := ck h
          obtain ⟨σ20, e21, h⟩ := bs h
          refine r_iast (pc' := 76) (σ1 := σ20) C sh_171 (vin q19) dX9_seen_75 rfl e21 ?_
          refine r_aload_n (pc' := 77) C dX9_seen_76 rfl 0 rfl ?_
          refine r_dup (pc' := 78) C dX9_seen_77 rfl rfl ?_
          refine r_getI (pc' := 81) C flX9_381 sh_149 rfl dX9_seen_78 rfl ?_
          refine r_iconst (pc' := 82) C dX9_seen_81 rfl kc_1 ?_
          refine r_iadd (pc' := 83) C dX9_seen_82 rfl ?_
          obtain ⟨σ22, e23, h⟩ := bs h
          refine r_putI (pc' := 86) (σ1 := σ22) C fpX9_381 sh_149 rfl rfl rfl dX9_seen_83 rfl e23 ?_
          refine r_aload_n (pc' := 87) C dX9_seen_86 rfl 0 rfl ?_
          refine r_getI (pc' := 90) C flX9_381 sh_149 rfl dX9_seen_87 rfl ?_
          have h := Option.some.inj h
          subst h
          exact r_ret C rfl dX9_seen_90 hE
        · rw [if_pos c12] at h
          refine r_iconst (pc' := 45) C dX9_seen_44 rfl kc_m1 ?_
          have h := Option.some.inj h
          subst h
          exact r_ret C rfl dX9_seen_45 hE

/-! BorrowedWeightModel.forget()I -/
def X9_forget (N : Nat)   (σ : Sg) : Option (Int32 × Sg) :=
  bnS (wi σ 149 0 0) fun σ1 => bnS (wi σ1 149 35 0) fun σ3 => some (gi σ1 149 35, σ3)
set_option maxRecDepth 100000 in
set_option maxHeartbeats 4000000 in
theorem X9_forget_ok {E : Ev}  {N : Nat}  {σ : Sg} {r : Int32 × Sg} (h : X9_forget N   σ = some r) : Cm E (0) yX9_forget cX9_forget 2 (some .int) [.ref 149] SH0 SH0 σ r.2 (some (.int r.1)) 0 0 := by
  refine Cm.intro (by decide +kernel) (Nat.le_of_ble_eq_true rfl) (fun _ h => by obtain ⟨_, _, _, _, _, _, h⟩ := h; exact h) (fun Z C hE => ?_)
  show Wm E Z 0 0 SH0 σ 0 [(0, .ref 149)] []
  unfold X9_forget at h
  refine r_aload_n (pc' := 1) C dX9_forget_0 rfl 0 rfl ?_
  refine r_iconst (pc' := 2) C dX9_forget_1 rfl kc_0 ?_
  obtain ⟨σ1, e2, h⟩ := bs h
  refine r_putI (pc' := 5) (σ1 := σ1) C fpX9_3 sh_149 rfl rfl rfl dX9_forget_2 rfl e2 ?_
  refine r_aload_n (pc' := 6) C dX9_forget_5 rfl 0 rfl ?_
  refine r_getI (pc' := 9) C flX9_381 sh_149 rfl dX9_forget_6 rfl ?_
  refine r_istore_n (pc' := 10) (lv2 := [(1, .int (gi σ1 149 35)), (0, .ref 149)]) C dX9_forget_9 rfl rfl (Nat.le_of_ble_eq_true rfl) rfl ?_
  refine r_aload_n (pc' := 11) C dX9_forget_10 rfl 1 rfl ?_
  refine r_iconst (pc' := 12) C dX9_forget_11 rfl kc_0 ?_
  obtain ⟨σ3, e4, h⟩ := bs h
  refine r_putI (pc' := 15) (σ1 := σ3) C fpX9_381 sh_149 rfl rfl rfl dX9_forget_12 rfl e4 ?_
  refine r_iload_n (pc' := 16) C dX9_forget_15 rfl 0 rfl ?_
  have h := Option.some.inj h
  subst h
  exact r_ret C rfl dX9_forget_16 hE

/-! BorrowedWeightModel.place(II)I -/
def X9_place (N : Nat)  (v0 : Int32) (v1 : Int32) (σ : Sg) : Option (Int32) :=
  some ((21 * v0) + v1)
set_option maxRecDepth 100000 in
set_option maxHeartbeats 4000000 in
theorem X9_place_ok {E : Ev}  {N : Nat} {v0 : Int32} {v1 : Int32} {σ : Sg} {r : Int32} (h : X9_place N  v0 v1 σ = some r) : Cm E (0) yX9_place cX9_place 2 (some .int) [.int v0, .int v1] SH0 SH0 σ σ (some (.int r)) 0 0 := by
  refine Cm.intro (by decide +kernel) (Nat.le_of_ble_eq_true rfl) (fun _ h => by obtain ⟨_, _, _, _, _, _, h⟩ := h; exact h) (fun Z C hE => ?_)
  show Wm E Z 0 0 SH0 σ 0 [(0, .int v0), (1, .int v1)] []
  unfold X9_place at h
  refine r_bipush (pc' := 2) C dX9_place_0 rfl kb_21 ?_
  refine r_iload_n (pc' := 3) C dX9_place_2 rfl 0 rfl ?_
  refine r_imul (pc' := 4) C dX9_place_3 rfl ?_
  refine r_iload_n (pc' := 5) C dX9_place_4 rfl 1 rfl ?_
  refine r_iadd (pc' := 6) C dX9_place_5 rfl ?_
  have h := Option.some.inj h
  subst h
  exact r_ret C rfl dX9_place_6 hE

/-! BorrowedWeightModel.isAsSeen(I)Z -/
def X9_isAsSeen_l22 (N : Nat)  (k60 : Int32 → Sg → Option (Int32 × Sg))  : Nat → Int32 → Int32 → Sg → Option (Int32 × Sg)
  | 0, _, _, _ => none
  | n + 1, v1, v2, σ =>
    if 20 < v2 then (k60 v1 σ) else ((X9_place N v1 v2 σ).bind fun r5 => ((X9_floating N 154 σ).bind fun r7 => (if inb r5 189 = true then bnS (wi r7.2 172 r5.toNatClampNeg r7.1) fun σ10 => (X9_hourGoes N 154 σ10).bind fun r12 => (X9_isAsSeen_l22 N k60 n v1 (v2 + 1) r12) else none)))
set_option maxRecDepth 100000 in
set_option maxHeartbeats 4000000 in
theorem X9_isAsSeen_l22_ok {E : Ev}  {N : Nat} {k60 : Int32 → Sg → Option (Int32 × Sg)}  (hk60 : ∀ (v1 : Int32) (σ : Sg) (r : Int32 × Sg), k60 v1 σ = some r → Gp E RX9 cX9_isAsSeen (some .boolean) 4 (8) SH0 r.2 (some (.int r.1)) σ 60 [(0, .ref 149), (1, .int v1)] []) : ∀ (n : Nat) (v1 : Int32) (v2 : Int32) (σ : Sg) (r : Int32 × Sg), X9_isAsSeen_l22 N k60 n v1 v2 σ = some r → Gp E RX9 cX9_isAsSeen (some .boolean) 4 (8) SH0 r.2 (some (.int r.1)) σ 22 [(0, .ref 149), (1, .int v1), (2, .int v2)] [] := by
  intro n
  induction n with
  | zero => intro v1 v2 σ r h; cases h
  | succ n ih =>
    intro v1 v2 σ r h Z C hE
    unfold X9_isAsSeen_l22 at h
    refine r_iload_n (pc' := 23) C dX9_isAsSeen_22 rfl 2 rfl ?_
    refine r_bipush (pc' := 25) C dX9_isAsSeen_23 rfl kb_20 ?_
    refine r_icmp_gt (tgt := 60) (pc' := 28) C dX9_isAsSeen_25 rfl rfl (fun c4 => ?_) (fun c4 => ?_)
    · rw [if_pos c4] at h
      refine r_sub [0, 1] rfl ?_
      exact hk60 _ _ _ h Z C hE
    · rw [if_neg c4] at h
      refine r_aload_n (pc' := 29) C dX9_isAsSeen_28 rfl 0 rfl ?_
      refine r_getR (pc' := 32) C flX9_91 sh_149 rfl dX9_isAsSeen_29 rfl ?_
      refine r_iload_n (pc' := 33) C dX9_isAsSeen_32 rfl 1 rfl ?_
      refine r_iload_n (pc' := 34) C dX9_isAsSeen_33 rfl 2 rfl ?_
      obtain ⟨r5, e6, h⟩ := bd h
      refine r_cS1 (pc' := 37) C (X9_place_ok  e6) mlX9_384 ceX9_place csX9_place rfl (Nat.le_of_ble_eq_true rfl) rfl (Nat.le_of_ble_eq_true rfl) dX9_isAsSeen_34 rfl (kk := ?_)
      refine r_aload_n (pc' := 38) C dX9_isAsSeen_37 rfl 0 rfl ?_
      refine r_aload_n (pc' := 39) C dX9_isAsSeen_38 rfl 0 rfl ?_
      refine r_getR (pc' := 42) C flX9_37 sh_149 rfl dX9_isAsSeen_39 rfl ?_
      obtain ⟨r7, e8, h⟩ := bd h
      refine r_cV1 (pc' := 45) C (X9_floating_ok mac_154 e8) mlX9_303 ceX9_floating cvX9_floating sh_149 rfl rfl rfl (Nat.le_of_ble_eq_true rfl) rfl (Nat.le_of_ble_eq_true rfl) dX9_isAsSeen_42 rfl (kk := ?_)
      obtain ⟨q9, h⟩ := ck h
      obtain ⟨σ10, e11, h⟩ := bs h
      refine r_iast (pc' := 46) (σ1 := σ10) C sh_172 (vin q9) dX9_isAsSeen_45 rfl e11 ?_
      refine r_aload_n (pc' := 47) C dX9_isAsSeen_46 rfl 0 rfl ?_
      refine r_aload_n (pc' := 48) C dX9_isAsSeen_47 rfl 0 rfl ?_
      refine r_getR (pc' := 51) C flX9_37 sh_149 rfl dX9_isAsSeen_48 rfl ?_
      obtain ⟨r12, e13, h⟩ := bd h
      refine r_cV0 (pc' := 54) C (X9_hourGoes_ok mac_154 e13) mlX9_313 ceX9_hourGoes cvX9_hourGoes sh_149 rfl rfl rfl (Nat.le_of_ble_eq_true rfl) rfl (Nat.le_of_ble_eq_true rfl) dX9_isAsSeen_51 rfl (kk := ?_)
      refine r_iinc (pc' := 57) (v := v2 + 1) (lv2 := [(2, .int (v2 + 1)), (0, .ref 149), (1, .int v1)]) C dX9_isAsSeen_54 rfl 2 rfl rfl (Nat.le_of_ble_eq_true rfl) rfl ?_
      refine r_goto (tgt := 22) C dX9_isAsSeen_57 rfl ?_
      refine r_sub [1, 2, 0] rfl ?_
      exact ih _ _ _ _ h Z C hE
def X9_isAsSeen_l64 (N : Nat)    : Nat → Int32 → Int32 → Int32 → Sg → Option (Int32 × Sg)
  | 0, _, _, _, _ => none
  | n + 1, v1, v2, v3, σ =>
    if (gi σ 149 35) ≤ v3 then (if isB v2 = true then some (v2, σ) else none) else (if v2 = 0 then (X9_isAsSeen_l64 N n v1 0 (v3 + 1) σ) else (if inb v3 10 = true then (X9_place N v1 (gi σ 170 v3.toNatClampNeg) σ).bind fun r18 => (if inb r18 189 = true then if inb v3 10 = true then (X9_has N (gi σ 172 r18.toNatClampNeg) (gi σ 169 v3.toNatClampNeg) σ).bind fun r22 => ((X9_flag N r22 σ).bind fun r24 => (if inb v3 10 = true then if r24 = (gi σ 171 v3.toNatClampNeg) then (X9_isAsSeen_l64 N n v1 1 (v3 + 1) σ) else (X9_isAsSeen_l64 N n v1 0 (v3 + 1) σ) else none)) else none else none) else none))
set_option maxRecDepth 100000 in
set_option maxHeartbeats 4000000 in
theorem X9_isAsSeen_l64_ok {E : Ev}  {N : Nat}    : ∀ (n : Nat) (v1 : Int32) (v2 : Int32) (v3 : Int32) (σ : Sg) (r : Int32 × Sg), X9_isAsSeen_l64 N n v1 v2 v3 σ = some r → Gp E RX9 cX9_isAsSeen (some .boolean) 4 (8) SH0 r.2 (some (.int r.1)) σ 64 [(0, .ref 149), (1, .int v1), (2, .int v2), (3, .int v3)] [] := by
  intro n
  induction n with
  | zero => intro v1 v2 v3 σ r h; cases h
  | succ n ih =>
    intro v1 v2 v3 σ r h Z C hE
    unfold X9_isAsSeen_l64 at h
    refine r_iload_n (pc' := 65) C dX9_isAsSeen_64 rfl 3 rfl ?_
    refine r_aload_n (pc' := 66) C dX9_isAsSeen_65 rfl 0 rfl ?_
    refine r_getI (pc' := 69) C flX9_381 sh_149 rfl dX9_isAsSeen_66 rfl ?_
    refine r_icmp_ge (tgt := 124) (pc' := 72) C dX9_isAsSeen_69 rfl rfl (fun c14 => ?_) (fun c14 => ?_)
    · rw [if_pos c14] at h
      refine r_iload_n (pc' := 125) C dX9_isAsSeen_124 rfl 2 rfl ?_
      obtain ⟨q15, h⟩ := ck h
      have h := Option.some.inj h
      subst h
      exact r_ret C (nisB q15) dX9_isAsSeen_125 hE
    · rw [if_neg c14] at h
      refine r_iload_n (pc' := 73) C dX9_isAsSeen_72 rfl 2 rfl ?_
      refine r_if_eq (tgt := 116) (pc' := 76) C dX9_isAsSeen_73 rfl rfl (fun c16 => ?_) (fun c16 => ?_)
      · rw [if_pos c16] at h
        refine r_iconst (pc' := 117) C dX9_isAsSeen_116 rfl kc_0 ?_
        refine r_istore_n (pc' := 118) (lv2 := [(2, .int 0), (0, .ref 149), (1, .int v1), (3, .int v3)]) C dX9_isAsSeen_117 rfl rfl (Nat.le_of_ble_eq_true rfl) rfl ?_
        refine r_iinc (pc' := 121) (v := v3 + 1) (lv2 := [(3, .int (v3 + 1)), (2, .int 0), (0, .ref 149), (1, .int v1)]) C dX9_isAsSeen_118 rfl 3 rfl rfl (Nat.le_of_ble_eq_true rfl) rfl ?_
        refine r_goto (tgt := 64) C dX9_isAsSeen_121 rfl ?_
        refine r_sub [2, 3, 1, 0] rfl ?_
        exact ih _ _ _ _ _ h Z C hE
      · rw [if_neg c16] at h
        refine r_aload_n (pc' := 77) C dX9_isAsSeen_76 rfl 0 rfl ?_
        refine r_getR (pc' := 80) C flX9_91 sh_149 rfl dX9_isAsSeen_77 rfl ?_
        refine r_iload_n (pc' := 81) C dX9_isAsSeen_80 rfl 1 rfl ?_
        refine r_aload_n (pc' := 82) C dX9_isAsSeen_81 rfl 0 rfl ?_
        refine r_getR (pc' := 85) C flX9_85 sh_149 rfl dX9_isAsSeen_82 rfl ?_
        refine r_iload_n (pc' := 86) C dX9_isAsSeen_85 rfl 3 rfl ?_
        obtain ⟨q17, h⟩ := ck h
        refine r_iald (pc' := 87) C sh_170 (vin q17) dX9_isAsSeen_86 rfl ?_
        obtain ⟨r18, e19, h⟩ := bd h
        refine r_cS1 (pc' := 90) C (X9_place_ok  e19) mlX9_384 ceX9_place csX9_place rfl (Nat.le_of_ble_eq_true rfl) rfl (Nat.le_of_ble_eq_true rfl) dX9_isAsSeen_87 rfl (kk := ?_)
        obtain ⟨q20, h⟩ := ck h
        refine r_iald (pc' := 91) C sh_172 (vin q20) dX9_isAsSeen_90 rfl ?_
        refine r_aload_n (pc' := 92) C dX9_isAsSeen_91 rfl 0 rfl ?_
        refine r_getR (pc' := 95) C flX9_82 sh_149 rfl dX9_isAsSeen_92 rfl ?_
        refine r_iload_n (pc' := 96) C dX9_isAsSeen_95 rfl 3 rfl ?_
        obtain ⟨q21, h⟩ := ck h
        refine r_iald (pc' := 97) C sh_169 (vin q21) dX9_isAsSeen_96 rfl ?_
        obtain ⟨r22, e23, h⟩ := bd h
        refine r_cS1 (pc' := 100) C (X9_has_ok  e23) mlX9_127 ceX9_has csX9_has rfl (Nat.le_of_ble_eq_true rfl) rfl (Nat.le_of_ble_eq_true rfl) dX9_isAsSeen_97 rfl (kk := ?_)
        obtain ⟨r24, e25, h⟩ := bd h
        refine r_cS1 (pc' := 103) C (X9_flag_ok  e25) mlX9_159 ceX9_flag csX9_flag rfl (Nat.le_of_ble_eq_true rfl) rfl (Nat.le_of_ble_eq_true rfl) dX9_isAsSeen_100 rfl (kk := ?_)
        refine r_aload_n (pc' := 104) C dX9_isAsSeen_103 rfl 0 rfl ?_
        refine r_getR (pc' := 107) C flX9_88 sh_149 rfl dX9_isAsSeen_104 rfl ?_
        refine r_iload_n (pc' := 108) C dX9_isAsSeen_107 rfl 3 rfl ?_
        obtain ⟨q26, h⟩ := ck h
        refine r_iald (pc' := 109) C sh_171 (vin q26) dX9_isAsSeen_108 rfl ?_
        refine r_icmp_ne (tgt := 116) (pc' := 112) C dX9_isAsSeen_109 rfl rfl (fun c27 => ?_) (fun c27 => ?_)
        · rw [if_neg c27] at h
          refine r_iconst (pc' := 117) C dX9_isAsSeen_116 rfl kc_0 ?_
          refine r_istore_n (pc' := 118) (lv2 := [(2, .int 0), (0, .ref 149), (1, .int v1), (3, .int v3)]) C dX9_isAsSeen_117 rfl rfl (Nat.le_of_ble_eq_true rfl) rfl ?_
          refine r_iinc (pc' := 121) (v := v3 + 1) (lv2 := [(3, .int (v3 + 1)), (2, .int 0), (0, .ref 149), (1, .int v1)]) C dX9_isAsSeen_118 rfl 3 rfl rfl (Nat.le_of_ble_eq_true rfl) rfl ?_
          refine r_goto (tgt := 64) C dX9_isAsSeen_121 rfl ?_
          refine r_sub [2, 3, 1, 0] rfl ?_
          exact ih _ _ _ _ _ h Z C hE
        · rw [if_pos c27] at h
          refine r_iconst (pc' := 113) C dX9_isAsSeen_112 rfl kc_1 ?_
          refine r_goto (tgt := 117) C dX9_isAsSeen_113 rfl ?_
          refine r_istore_n (pc' := 118) (lv2 := [(2, .int 1), (0, .ref 149), (1, .int v1), (3, .int v3)]) C dX9_isAsSeen_117 rfl rfl (Nat.le_of_ble_eq_true rfl) rfl ?_
          refine r_iinc (pc' := 121) (v := v3 + 1) (lv2 := [(3, .int (v3 + 1)), (2, .int 1), (0, .ref 149), (1, .int v1)]) C dX9_isAsSeen_118 rfl 3 rfl rfl (Nat.le_of_ble_eq_true rfl) rfl ?_
          refine r_goto (tgt := 64) C dX9_isAsSeen_121 rfl ?_
          refine r_sub [2, 3, 1, 0] rfl ?_
          exact ih _ _ _ _ _ h Z C hE
def X9_isAsSeen_j60 (N : Nat)   (v1 : Int32) (σ : Sg) : Option (Int32 × Sg) :=
  X9_isAsSeen_l64 N N v1 1 0 σ
set_option maxRecDepth 100000 in
set_option maxHeartbeats 4000000 in
theorem X9_isAsSeen_j60_ok {E : Ev}  {N : Nat}    {v1 : Int32} {σ : Sg} {r : Int32 × Sg} (h : X9_isAsSeen_j60 N   v1 σ = some r) : Gp E RX9 cX9_isAsSeen (some .boolean) 4 (8) SH0 r.2 (some (.int r.1)) σ 60 [(0, .ref 149), (1, .int v1)] [] := by
  intro Z C hE
  unfold X9_isAsSeen_j60 at h
  refine r_iconst (pc' := 61) C dX9_isAsSeen_60 rfl kc_1 ?_
  refine r_istore_n (pc' := 62) (lv2 := [(2, .int 1), (0, .ref 149), (1, .int v1)]) C dX9_isAsSeen_61 rfl rfl (Nat.le_of_ble_eq_true rfl) rfl ?_
  refine r_iconst (pc' := 63) C dX9_isAsSeen_62 rfl kc_0 ?_
  refine r_istore_n (pc' := 64) (lv2 := [(3, .int 0), (2, .int 1), (0, .ref 149), (1, .int v1)]) C dX9_isAsSeen_63 rfl rfl (Nat.le_of_ble_eq_true rfl) rfl ?_
  refine r_sub [2, 3, 1, 0] rfl ?_
  exact X9_isAsSeen_l64_ok  N _ _ _ _ _ h Z C hE
def X9_isAsSeen (N : Nat)  (v1 : Int32) (σ : Sg) : Option (Int32 × Sg) :=
  (X9_copies N σ).bind fun r1 => (if 8 ≤ v1 then (X9_isAsSeen_l22 N (fun v1 σ => X9_isAsSeen_j60 N v1 σ) N v1 0 r1) else (if inb v1 37 = true then if inb v1 37 = true then bnS (wi r1 154 v1.toNatClampNeg ((gi r1 154 v1.toNatClampNeg) + 1)) fun σ30 => X9_isAsSeen_l22 N (fun v1 σ => X9_isAsSeen_j60 N v1 σ) N v1 0 σ30 else none else none))
set_option maxRecDepth 100000 in
set_option maxHeartbeats 4000000 in
theorem X9_isAsSeen_ok {E : Ev}  {N : Nat} {v1 : Int32} {σ : Sg} {r : Int32 × Sg} (h : X9_isAsSeen N  v1 σ = some r) : Cm E (8) yX9_isAsSeen cX9_isAsSeen 4 (some .boolean) [.ref 149, .int v1] SH0 SH0 σ r.2 (some (.int r.1)) 0 0 := by
  refine Cm.intro (by decide +kernel) (Nat.le_of_ble_eq_true rfl) (fun _ h => by obtain ⟨_, _, _, _, _, _, h⟩ := h; exact h) (fun Z C hE => ?_)
  show Wm E Z 0 0 SH0 σ 0 [(0, .ref 149), (1, .int v1)] []
  unfold X9_isAsSeen at h
  refine r_aload_n (pc' := 1) C dX9_isAsSeen_0 rfl 0 rfl ?_
  obtain ⟨r1, e2, h⟩ := bd h
  refine r_cV0 (pc' := 4) C (X9_copies_ok  e2) mlX9_362 ceX9_copies cvX9_copies sh_149 rfl rfl rfl (Nat.le_of_ble_eq_true rfl) rfl (Nat.le_of_ble_eq_true rfl) dX9_isAsSeen_1 rfl (kk := ?_)
  refine r_iload_n (pc' := 5) C dX9_isAsSeen_4 rfl 1 rfl ?_
  refine r_bipush (pc' := 7) C dX9_isAsSeen_5 rfl kb_8 ?_
  refine r_icmp_ge (tgt := 20) (pc' := 10) C dX9_isAsSeen_7 rfl rfl (fun c3 => ?_) (fun c3 => ?_)
  · rw [if_pos c3] at h
    refine r_iconst (pc' := 21) C dX9_isAsSeen_20 rfl kc_0 ?_
    refine r_istore_n (pc' := 22) (lv2 := [(2, .int 0), (0, .ref 149), (1, .int v1)]) C dX9_isAsSeen_21 rfl rfl (Nat.le_of_ble_eq_true rfl) rfl ?_
    refine r_sub [1, 2, 0] rfl ?_
    exact X9_isAsSeen_l22_ok  (fun _ _ _ h Z C hE => by exact X9_isAsSeen_j60_ok  h Z C hE) N _ _ _ _ h Z C hE
  · rw [if_neg c3] at h
    refine r_aload_n (pc' := 11) C dX9_isAsSeen_10 rfl 0 rfl ?_
    refine r_getR (pc' := 14) C flX9_37 sh_149 rfl dX9_isAsSeen_11 rfl ?_
    refine r_iload_n (pc' := 15) C dX9_isAsSeen_14 rfl 1 rfl ?_
    refine r_dup2 (pc' := 16) C dX9_isAsSeen_15 rfl rfl rfl ?_
    obtain ⟨q28, h⟩ := ck h
    refine r_iald (pc' := 17) C sh_154 (vin q28) dX9_isAsSeen_16 rfl ?_
    refine r_iconst (pc' := 18) C dX9_isAsSeen_17 rfl kc_1 ?_
    refine r_iadd (pc' := 19) C dX9_isAsSeen_18 rfl ?_
    obtain ⟨q29, h⟩ := ck h
    obtain ⟨σ30, e31, h⟩ := bs h
    refine r_iast (pc' := 20) (σ1 := σ30) C sh_154 (vin q29) dX9_isAsSeen_19 rfl e31 ?_
    refine r_iconst (pc' := 21) C dX9_isAsSeen_20 rfl kc_0 ?_
    refine r_istore_n (pc' := 22) (lv2 := [(2, .int 0), (0, .ref 149), (1, .int v1)]) C dX9_isAsSeen_21 rfl rfl (Nat.le_of_ble_eq_true rfl) rfl ?_
    refine r_sub [1, 2, 0] rfl ?_
    exact X9_isAsSeen_l22_ok  (fun _ _ _ h Z C hE => by exact X9_isAsSeen_j60_ok  h Z C hE) N _ _ _ _ h Z C hE

/-! BorrowedWeightModel.fitting()I -/
def X9_fitting_l4 (N : Nat)    : Nat → Int32 → Int32 → Sg → Option (Int32 × Sg)
  | 0, _, _, _ => none
  | n + 1, v1, v2, σ =>
    if (gi σ 149 3) ≤ v2 then (some (v1, σ)) else ((X9_isHere N 153 v2 σ).bind fun r2 => (if r2 = 0 then (X9_fitting_l4 N n (v1 ||| 0) (v2 + 1) σ) else ((X9_isAsSeen N v2 σ).bind fun r5 => (if r5.1 = 0 then (X9_fitting_l4 N n (v1 ||| 0) (v2 + 1) r5.2) else (X9_fitting_l4 N n (v1 ||| (1 <<< (v2 &&& 31))) (v2 + 1) r5.2)))))
set_option maxRecDepth 100000 in
set_option maxHeartbeats 4000000 in
theorem X9_fitting_l4_ok {E : Ev}  {N : Nat}    : ∀ (n : Nat) (v1 : Int32) (v2 : Int32) (σ : Sg) (r : Int32 × Sg), X9_fitting_l4 N n v1 v2 σ = some r → Gp E RX9 cX9_fitting (some .int) 3 (9) SH0 r.2 (some (.int r.1)) σ 4 [(0, .ref 149), (1, .int v1), (2, .int v2)] [] := by
  intro n
  induction n with
  | zero => intro v1 v2 σ r h; cases h
  | succ n ih =>
    intro v1 v2 σ r h Z C hE
    unfold X9_fitting_l4 at h
    refine r_iload_n (pc' := 5) C dX9_fitting_4 rfl 2 rfl ?_
    refine r_aload_n (pc' := 6) C dX9_fitting_5 rfl 0 rfl ?_
    refine r_getI (pc' := 9) C flX9_116 sh_149 rfl dX9_fitting_6 rfl ?_
    refine r_icmp_ge (tgt := 48) (pc' := 12) C dX9_fitting_9 rfl rfl (fun c1 => ?_) (fun c1 => ?_)
    · rw [if_pos c1] at h
      refine r_iload_n (pc' := 49) C dX9_fitting_48 rfl 1 rfl ?_
      have h := Option.some.inj h
      subst h
      exact r_ret C rfl dX9_fitting_49 hE
    · rw [if_neg c1] at h
      refine r_iload_n (pc' := 13) C dX9_fitting_12 rfl 1 rfl ?_
      refine r_aload_n (pc' := 14) C dX9_fitting_13 rfl 0 rfl ?_
      refine r_aload_n (pc' := 15) C dX9_fitting_14 rfl 0 rfl ?_
      refine r_getR (pc' := 18) C flX9_34 sh_149 rfl dX9_fitting_15 rfl ?_
      refine r_iload_n (pc' := 19) C dX9_fitting_18 rfl 2 rfl ?_
      obtain ⟨r2, e3, h⟩ := bd h
      refine r_cV1 (pc' := 22) C (X9_isHere_ok mac_153 e3) mlX9_202 ceX9_isHere cvX9_isHere sh_149 rfl rfl rfl (Nat.le_of_ble_eq_true rfl) rfl (Nat.le_of_ble_eq_true rfl) dX9_fitting_19 rfl (kk := ?_)
      refine r_if_eq (tgt := 39) (pc' := 25) C dX9_fitting_22 rfl rfl (fun c4 => ?_) (fun c4 => ?_)
      · rw [if_pos c4] at h
        refine r_iconst (pc' := 40) C dX9_fitting_39 rfl kc_0 ?_
        refine r_ior (pc' := 41) C dX9_fitting_40 rfl ?_
        refine r_istore_n (pc' := 42) (lv2 := [(1, .int (v1 ||| 0)), (0, .ref 149), (2, .int v2)]) C dX9_fitting_41 rfl rfl (Nat.le_of_ble_eq_true rfl) rfl ?_
        refine r_iinc (pc' := 45) (v := v2 + 1) (lv2 := [(2, .int (v2 + 1)), (1, .int (v1 ||| 0)), (0, .ref 149)]) C dX9_fitting_42 rfl 2 rfl rfl (Nat.le_of_ble_eq_true rfl) rfl ?_
        refine r_goto (tgt := 4) C dX9_fitting_45 rfl ?_
        refine r_sub [2, 1, 0] rfl ?_
        exact ih _ _ _ _ h Z C hE
      · rw [if_neg c4] at h
        refine r_aload_n (pc' := 26) C dX9_fitting_25 rfl 0 rfl ?_
        refine r_iload_n (pc' := 27) C dX9_fitting_26 rfl 2 rfl ?_
        obtain ⟨r5, e6, h⟩ := bd h
        refine r_cV1 (pc' := 30) C (X9_isAsSeen_ok  e6) mlX9_387 ceX9_isAsSeen cvX9_isAsSeen sh_149 rfl rfl rfl (Nat.le_of_ble_eq_true rfl) rfl (Nat.le_of_ble_eq_true rfl) dX9_fitting_27 rfl (kk := ?_)
        refine r_if_eq (tgt := 39) (pc' := 33) C dX9_fitting_30 rfl rfl (fun c7 => ?_) (fun c7 => ?_)
        · rw [if_pos c7] at h
          refine r_iconst (pc' := 40) C dX9_fitting_39 rfl kc_0 ?_
          refine r_ior (pc' := 41) C dX9_fitting_40 rfl ?_
          refine r_istore_n (pc' := 42) (lv2 := [(1, .int (v1 ||| 0)), (0, .ref 149), (2, .int v2)]) C dX9_fitting_41 rfl rfl (Nat.le_of_ble_eq_true rfl) rfl ?_
          refine r_iinc (pc' := 45) (v := v2 + 1) (lv2 := [(2, .int (v2 + 1)), (1, .int (v1 ||| 0)), (0, .ref 149)]) C dX9_fitting_42 rfl 2 rfl rfl (Nat.le_of_ble_eq_true rfl) rfl ?_
          refine r_goto (tgt := 4) C dX9_fitting_45 rfl ?_
          refine r_sub [2, 1, 0] rfl ?_
          exact ih _ _ _ _ h Z C hE
        · rw [if_neg c7] at h
          refine r_iconst (pc' := 34) C dX9_fitting_33 rfl kc_1 ?_
          refine r_iload_n (pc' := 35) C dX9_fitting_34 rfl 2 rfl ?_
          refine r_ishl (pc' := 36) C dX9_fitting_35 rfl ?_
          refine r_goto (tgt := 40) C dX9_fitting_36 rfl ?_
          refine r_ior (pc' := 41) C dX9_fitting_40 rfl ?_
          refine r_istore_n (pc' := 42) (lv2 := [(1, .int (v1 ||| (1 <<< (v2 &&& 31)))), (0, .ref 149), (2, .int v2)]) C dX9_fitting_41 rfl rfl (Nat.le_of_ble_eq_true rfl) rfl ?_
          refine r_iinc (pc' := 45) (v := v2 + 1) (lv2 := [(2, .int (v2 + 1)), (1, .int (v1 ||| (1 <<< (v2 &&& 31)))), (0, .ref 149)]) C dX9_fitting_42 rfl 2 rfl rfl (Nat.le_of_ble_eq_true rfl) rfl ?_
          refine r_goto (tgt := 4) C dX9_fitting_45 rfl ?_
          refine r_sub [2, 1, 0] rfl ?_
          exact ih _ _ _ _ h Z C hE
def X9_fitting (N : Nat)   (σ : Sg) : Option (Int32 × Sg) :=
  X9_fitting_l4 N N 0 0 σ
set_option maxRecDepth 100000 in
set_option maxHeartbeats 4000000 in
theorem X9_fitting_ok {E : Ev}  {N : Nat}  {σ : Sg} {r : Int32 × Sg} (h : X9_fitting N   σ = some r) : Cm E (9) yX9_fitting cX9_fitting 3 (some .int) [.ref 149] SH0 SH0 σ r.2 (some (.int r.1)) 0 0 := by
  refine Cm.intro (by decide +kernel) (Nat.le_of_ble_eq_true rfl) (fun _ h => by obtain ⟨_, _, _, _, _, _, h⟩ := h; exact h) (fun Z C hE => ?_)
  show Wm E Z 0 0 SH0 σ 0 [(0, .ref 149)] []
  unfold X9_fitting at h
  refine r_iconst (pc' := 1) C dX9_fitting_0 rfl kc_0 ?_
  refine r_istore_n (pc' := 2) (lv2 := [(1, .int 0), (0, .ref 149)]) C dX9_fitting_1 rfl rfl (Nat.le_of_ble_eq_true rfl) rfl ?_
  refine r_iconst (pc' := 3) C dX9_fitting_2 rfl kc_0 ?_
  refine r_istore_n (pc' := 4) (lv2 := [(2, .int 0), (1, .int 0), (0, .ref 149)]) C dX9_fitting_3 rfl rfl (Nat.le_of_ble_eq_true rfl) rfl ?_
  refine r_sub [2, 1, 0] rfl ?_
  exact X9_fitting_l4_ok  N _ _ _ _ h Z C hE

/-! BorrowedWeightModel.fits()I -/
def X9_fits (N : Nat)   (σ : Sg) : Option (Int32 × Sg) :=
  bnS (wi σ 149 0 0) fun σ1 => (X9_fitting N σ1).bind fun r3 => (bnS (wi r3.2 149 1 0) fun σ5 => (J6_bitCount_0f7a4 N r3.1 σ5).bind fun r7 => ((X9_enters N r7.toInt64 σ5).bind fun r9 => ((X9_isAsSeen N 8 r9).bind fun r11 => ((X9_flag N r11.1 r11.2).bind fun r13 => ((X9_enters N r13.toInt64 r11.2).bind fun r15 => (some (r3.1, r15)))))))
set_option maxRecDepth 100000 in
set_option maxHeartbeats 4000000 in
theorem X9_fits_ok {E : Ev}  {N : Nat}  {σ : Sg} {r : Int32 × Sg} (h : X9_fits N   σ = some r) : Cm E (10) yX9_fits cX9_fits 2 (some .int) [.ref 149] SH0 SH0 σ r.2 (some (.int r.1)) 0 0 := by
  refine Cm.intro (by decide +kernel) (Nat.le_of_ble_eq_true rfl) (fun _ h => by obtain ⟨_, _, _, _, _, _, h⟩ := h; exact h) (fun Z C hE => ?_)
  show Wm E Z 0 0 SH0 σ 0 [(0, .ref 149)] []
  unfold X9_fits at h
  refine r_aload_n (pc' := 1) C dX9_fits_0 rfl 0 rfl ?_
  refine r_iconst (pc' := 2) C dX9_fits_1 rfl kc_0 ?_
  obtain ⟨σ1, e2, h⟩ := bs h
  refine r_putI (pc' := 5) (σ1 := σ1) C fpX9_3 sh_149 rfl rfl rfl dX9_fits_2 rfl e2 ?_
  refine r_aload_n (pc' := 6) C dX9_fits_5 rfl 0 rfl ?_
  obtain ⟨r3, e4, h⟩ := bd h
  refine r_cV1 (pc' := 9) C (X9_fitting_ok  e4) mlX9_390 ceX9_fitting cvX9_fitting sh_149 rfl rfl rfl (Nat.le_of_ble_eq_true rfl) rfl (Nat.le_of_ble_eq_true rfl) dX9_fits_6 rfl (kk := ?_)
  refine r_istore_n (pc' := 10) (lv2 := [(1, .int r3.1), (0, .ref 149)]) C dX9_fits_9 rfl rfl (Nat.le_of_ble_eq_true rfl) rfl ?_
  refine r_aload_n (pc' := 11) C dX9_fits_10 rfl 1 rfl ?_
  refine r_iconst (pc' := 12) C dX9_fits_11 rfl kc_0 ?_
  obtain ⟨σ5, e6, h⟩ := bs h
  refine r_putI (pc' := 15) (σ1 := σ5) C fpX9_15 sh_149 rfl rfl rfl dX9_fits_12 rfl e6 ?_
  refine r_aload_n (pc' := 16) C dX9_fits_15 rfl 1 rfl ?_
  refine r_iload_n (pc' := 17) C dX9_fits_16 rfl 0 rfl ?_
  obtain ⟨r7, e8, h⟩ := bd h
  refine r_cS1 (pc' := 20) C (J6_bitCount_0f7a4_ok  e8) mlX9_135 ceJ6_bitCount_0f7a4 csJ6_bitCount_0f7a4 rfl (Nat.le_of_ble_eq_true rfl) rfl (Nat.le_of_ble_eq_true rfl) dX9_fits_17 rfl (kk := ?_)
  refine r_i2l (pc' := 21) C dX9_fits_20 rfl rfl ?_
  obtain ⟨r9, e10, h⟩ := bd h
  refine r_cV0 (pc' := 24) C (X9_enters_ok  e10) mlX9_327 ceX9_enters cvX9_enters sh_149 rfl rfl rfl (Nat.le_of_ble_eq_true rfl) rfl (Nat.le_of_ble_eq_true rfl) dX9_fits_21 rfl (kk := ?_)
  refine r_aload_n (pc' := 25) C dX9_fits_24 rfl 1 rfl ?_
  refine r_aload_n (pc' := 26) C dX9_fits_25 rfl 1 rfl ?_
  refine r_bipush (pc' := 28) C dX9_fits_26 rfl kb_8 ?_
  obtain ⟨r11, e12, h⟩ := bd h
  refine r_cV1 (pc' := 31) C (X9_isAsSeen_ok  e12) mlX9_387 ceX9_isAsSeen cvX9_isAsSeen sh_149 rfl rfl rfl (Nat.le_of_ble_eq_true rfl) rfl (Nat.le_of_ble_eq_true rfl) dX9_fits_28 rfl (kk := ?_)
  obtain ⟨r13, e14, h⟩ := bd h
  refine r_cS1 (pc' := 34) C (X9_flag_ok  e14) mlX9_159 ceX9_flag csX9_flag rfl (Nat.le_of_ble_eq_true rfl) rfl (Nat.le_of_ble_eq_true rfl) dX9_fits_31 rfl (kk := ?_)
  refine r_i2l (pc' := 35) C dX9_fits_34 rfl rfl ?_
  obtain ⟨r15, e16, h⟩ := bd h
  refine r_cV0 (pc' := 38) C (X9_enters_ok  e16) mlX9_327 ceX9_enters cvX9_enters sh_149 rfl rfl rfl (Nat.le_of_ble_eq_true rfl) rfl (Nat.le_of_ble_eq_true rfl) dX9_fits_35 rfl (kk := ?_)
  refine r_iload_n (pc' := 39) C dX9_fits_38 rfl 0 rfl ?_
  have h := Option.some.inj h
  subst h
  exact r_ret C rfl dX9_fits_39 hE

/-! BorrowedWeightModel.looks()I -/
def X9_looks_j95 (N : Nat)  (kr : Int32 → Int32 → Int32 → Int32 → Int32 → Int32 → Int32 → Sg → Option (Int32 × Sg)) (v1 : Int32) (v2 : Int32) (v3 : Int32) (v4 : Int32) (v5 : Int32) (v7 : Int32) (s0 : Int32) (σ : Sg) : Option (Int32 × Sg) :=
  (X9_flag N 0 σ).bind fun r12 => (kr v1 v2 v3 v4 v5 (s0 + r12) (v7 + 1) σ)
set_option maxRecDepth 100000 in
set_option maxHeartbeats 4000000 in
theorem X9_looks_j95_ok {E : Ev}  {N : Nat} {kr : Int32 → Int32 → Int32 → Int32 → Int32 → Int32 → Int32 → Sg → Option (Int32 × Sg)}  (hkr : ∀ (v1 : Int32) (v2 : Int32) (v3 : Int32) (v4 : Int32) (v5 : Int32) (v6 : Int32) (v7 : Int32) (σ : Sg) (r : Int32 × Sg), kr v1 v2 v3 v4 v5 v6 v7 σ = some r → Gp E RX9 cX9_looks (some .int) 8 (10) SH0 r.2 (some (.int r.1)) σ 51 [(0, .ref 149), (1, .int v1), (2, .int v2), (3, .int v3), (4, .int v4), (5, .int v5), (6, .int v6), (7, .int v7)] []) {v1 : Int32} {v2 : Int32} {v3 : Int32} {v4 : Int32} {v5 : Int32} {v7 : Int32} {s0 : Int32} {σ : Sg} {r : Int32 × Sg} (h : X9_looks_j95 N  kr v1 v2 v3 v4 v5 v7 s0 σ = some r) : Gp E RX9 cX9_looks (some .int) 8 (10) SH0 r.2 (some (.int r.1)) σ 95 [(0, .ref 149), (1, .int v1), (2, .int v2), (3, .int v3), (4, .int v4), (5, .int v5), (7, .int v7)] [.int s0] := by
  intro Z C hE
  unfold X9_looks_j95 at h
  refine r_iconst (pc' := 96) C dX9_looks_95 rfl kc_0 ?_
  obtain ⟨r12, e13, h⟩ := bd h
  refine r_cS1 (pc' := 99) C (X9_flag_ok  e13) mlX9_159 ceX9_flag csX9_flag rfl (Nat.le_of_ble_eq_true rfl) rfl (Nat.le_of_ble_eq_true rfl) dX9_looks_96 rfl (kk := ?_)
  refine r_iadd (pc' := 100) C dX9_looks_99 rfl ?_
  refine r_istore (pc' := 102) (lv2 := [(6, .int (s0 + r12)), (0, .ref 149), (1, .int v1), (2, .int v2), (3, .int v3), (4, .int v4), (5, .int v5), (7, .int v7)]) C dX9_looks_100 rfl (Nat.le_of_ble_eq_true rfl) rfl ?_
  refine r_iinc (pc' := 105) (v := v7 + 1) (lv2 := [(7, .int (v7 + 1)), (6, .int (s0 + r12)), (0, .ref 149), (1, .int v1), (2, .int v2), (3, .int v3), (4, .int v4), (5, .int v5)]) C dX9_looks_102 rfl 7 rfl rfl (Nat.le_of_ble_eq_true rfl) rfl ?_
  refine r_goto (tgt := 51) C dX9_looks_105 rfl ?_
  refine r_sub [2, 3, 4, 5, 6, 7, 1, 0] rfl ?_
  exact hkr _ _ _ _ _ _ _ _ _ h Z C hE
def X9_looks_l51 (N : Nat)  (k108 : Int32 → Int32 → Int32 → Int32 → Int32 → Int32 → Sg → Option (Int32 × Sg))  : Nat → Int32 → Int32 → Int32 → Int32 → Int32 → Int32 → Int32 → Sg → Option (Int32 × Sg)
  | 0, _, _, _, _, _, _, _, _ => none
  | n + 1, v1, v2, v3, v4, v5, v6, v7, σ =>
    if (gi σ 149 3) ≤ v7 then (k108 v1 v2 v3 v4 v5 v6 σ) else ((X9_has N v1 v7 σ).bind fun r9 => (if r9 = 0 then (X9_looks_j95 N (fun v1 v2 v3 v4 v5 v6 v7 σ => X9_looks_l51 N k108 n v1 v2 v3 v4 v5 v6 v7 σ) v1 v2 v3 v4 v5 v7 v6 σ) else ((X9_place N v7 v5 σ).bind fun r14 => (if inb r14 189 = true then (X9_has N (gi σ 172 r14.toNatClampNeg) v4 σ).bind fun r17 => (if r17 = 0 then (X9_looks_j95 N (fun v1 v2 v3 v4 v5 v6 v7 σ => X9_looks_l51 N k108 n v1 v2 v3 v4 v5 v6 v7 σ) v1 v2 v3 v4 v5 v7 v6 σ) else ((X9_flag N 1 σ).bind fun r20 => (X9_looks_l51 N k108 n v1 v2 v3 v4 v5 (v6 + r20) (v7 + 1) σ))) else none))))
set_option maxRecDepth 100000 in
set_option maxHeartbeats 4000000 in
theorem X9_looks_l51_ok {E : Ev}  {N : Nat} {k108 : Int32 → Int32 → Int32 → Int32 → Int32 → Int32 → Sg → Option (Int32 × Sg)}  (hk108 : ∀ (v1 : Int32) (v2 : Int32) (v3 : Int32) (v4 : Int32) (v5 : Int32) (v6 : Int32) (σ : Sg) (r : Int32 × Sg), k108 v1 v2 v3 v4 v5 v6 σ = some r → Gp E RX9 cX9_looks (some .int) 8 (10) SH0 r.2 (some (.int r.1)) σ 108 [(0, .ref 149), (1, .int v1), (2, .int v2), (3, .int v3), (4, .int v4), (5, .int v5), (6, .int v6)] []) : ∀ (n : Nat) (v1 : Int32) (v2 : Int32) (v3 : Int32) (v4 : Int32) (v5 : Int32) (v6 : Int32) (v7 : Int32) (σ : Sg) (r : Int32 × Sg), X9_looks_l51 N k108 n v1 v2 v3 v4 v5 v6 v7 σ = some r → Gp E RX9 cX9_looks (some .int) 8 (10) SH0 r.2 (some (.int r.1)) σ 51 [(0, .ref 149), (1, .int v1), (2, .int v2), (3, .int v3), (4, .int v4), (5, .int v5), (6, .int v6), (7, .int v7)] [] := by
  intro n
  induction n with
  | zero => intro v1 v2 v3 v4 v5 v6 v7 σ r h; cases h
  | succ n ih =>
    intro v1 v2 v3 v4 v5 v6 v7 σ r h Z C hE
    unfold X9_looks_l51 at h
    refine r_iload (pc' := 53) C dX9_looks_51 rfl 7 rfl ?_
    refine r_aload_n (pc' := 54) C dX9_looks_53 rfl 0 rfl ?_
    refine r_getI (pc' := 57) C flX9_116 sh_149 rfl dX9_looks_54 rfl ?_
    refine r_icmp_ge (tgt := 108) (pc' := 60) C dX9_looks_57 rfl rfl (fun c8 => ?_) (fun c8 => ?_)
    · rw [if_pos c8] at h
      refine r_sub [0, 1, 2, 3, 4, 5, 6] rfl ?_
      exact hk108 _ _ _ _ _ _ _ _ h Z C hE
    · rw [if_neg c8] at h
      refine r_iload (pc' := 62) C dX9_looks_60 rfl 6 rfl ?_
      refine r_iload_n (pc' := 63) C dX9_looks_62 rfl 1 rfl ?_
      refine r_iload (pc' := 65) C dX9_looks_63 rfl 7 rfl ?_
      obtain ⟨r9, e10, h⟩ := bd h
      refine r_cS1 (pc' := 68) C (X9_has_ok  e10) mlX9_127 ceX9_has csX9_has rfl (Nat.le_of_ble_eq_true rfl) rfl (Nat.le_of_ble_eq_true rfl) dX9_looks_65 rfl (kk := ?_)
      refine r_if_eq (tgt := 95) (pc' := 71) C dX9_looks_68 rfl rfl (fun c11 => ?_) (fun c11 => ?_)
      · rw [if_pos c11] at h
        refine r_sub [0, 1, 2, 3, 4, 5, 7] rfl ?_
        exact X9_looks_j95_ok  ih h Z C hE
      · rw [if_neg c11] at h
        refine r_aload_n (pc' := 72) C dX9_looks_71 rfl 0 rfl ?_
        refine r_getR (pc' := 75) C flX9_91 sh_149 rfl dX9_looks_72 rfl ?_
        refine r_iload (pc' := 77) C dX9_looks_75 rfl 7 rfl ?_
        refine r_iload (pc' := 79) C dX9_looks_77 rfl 5 rfl ?_
        obtain ⟨r14, e15, h⟩ := bd h
        refine r_cS1 (pc' := 82) C (X9_place_ok  e15) mlX9_384 ceX9_place csX9_place rfl (Nat.le_of_ble_eq_true rfl) rfl (Nat.le_of_ble_eq_true rfl) dX9_looks_79 rfl (kk := ?_)
        obtain ⟨q16, h⟩ := ck h
        refine r_iald (pc' := 83) C sh_172 (vin q16) dX9_looks_82 rfl ?_
        refine r_iload (pc' := 85) C dX9_looks_83 rfl 4 rfl ?_
        obtain ⟨r17, e18, h⟩ := bd h
        refine r_cS1 (pc' := 88) C (X9_has_ok  e18) mlX9_127 ceX9_has csX9_has rfl (Nat.le_of_ble_eq_true rfl) rfl (Nat.le_of_ble_eq_true rfl) dX9_looks_85 rfl (kk := ?_)
        refine r_if_eq (tgt := 95) (pc' := 91) C dX9_looks_88 rfl rfl (fun c19 => ?_) (fun c19 => ?_)
        · rw [if_pos c19] at h
          refine r_sub [0, 1, 2, 3, 4, 5, 7] rfl ?_
          exact X9_looks_j95_ok  ih h Z C hE
        · rw [if_neg c19] at h
          refine r_iconst (pc' := 92) C dX9_looks_91 rfl kc_1 ?_
          refine r_goto (tgt := 96) C dX9_looks_92 rfl ?_
          obtain ⟨r20, e21, h⟩ := bd h
          refine r_cS1 (pc' := 99) C (X9_flag_ok  e21) mlX9_159 ceX9_flag csX9_flag rfl (Nat.le_of_ble_eq_true rfl) rfl (Nat.le_of_ble_eq_true rfl) dX9_looks_96 rfl (kk := ?_)
          refine r_iadd (pc' := 100) C dX9_looks_99 rfl ?_
          refine r_istore (pc' := 102) (lv2 := [(6, .int (v6 + r20)), (0, .ref 149), (1, .int v1), (2, .int v2), (3, .int v3), (4, .int v4), (5, .int v5), (7, .int v7)]) C dX9_looks_100 rfl (Nat.le_of_ble_eq_true rfl) rfl ?_
          refine r_iinc (pc' := 105) (v := v7 + 1) (lv2 := [(7, .int (v7 + 1)), (6, .int (v6 + r20)), (0, .ref 149), (1, .int v1), (2, .int v2), (3, .int v3), (4, .int v4), (5, .int v5)]) C dX9_looks_102 rfl 7 rfl rfl (Nat.le_of_ble_eq_true rfl) rfl ?_
          refine r_goto (tgt := 51) C dX9_looks_105 rfl ?_
          refine r_sub [2, 3, 4, 5, 6, 7, 1, 0] rfl ?_
          exact ih _ _ _ _ _ _ _ _ _ h Z C hE
def X9_looks_j140 (N : Nat)  (kr : Int32 → Int32 → Int32 → Int32 → Int32 → Sg → Option (Int32 × Sg)) (v1 : Int32) (v3 : Int32) (v4 : Int32) (v5 : Int32) (v7 : Int32) (s0 : Int32) (σ : Sg) : Option (Int32 × Sg) :=
  (J9_min_7cf53 N v3 v7 σ).bind fun r27 => (kr v1 s0 r27 v4 (v5 + 1) σ)
set_option maxRecDepth 100000 in
set_option maxHeartbeats 4000000 in
theorem X9_looks_j140_ok {E : Ev}  {N : Nat} {kr : Int32 → Int32 → Int32 → Int32 → Int32 → Sg → Option (Int32 × Sg)}  (hkr : ∀ (v1 : Int32) (v2 : Int32) (v3 : Int32) (v4 : Int32) (v5 : Int32) (σ : Sg) (r : Int32 × Sg), kr v1 v2 v3 v4 v5 σ = some r → Gp E RX9 cX9_looks (some .int) 8 (10) SH0 r.2 (some (.int r.1)) σ 38 [(0, .ref 149), (1, .int v1), (2, .int v2), (3, .int v3), (4, .int v4), (5, .int v5)] []) {v1 : Int32} {v3 : Int32} {v4 : Int32} {v5 : Int32} {v7 : Int32} {s0 : Int32} {σ : Sg} {r : Int32 × Sg} (h : X9_looks_j140 N  kr v1 v3 v4 v5 v7 s0 σ = some r) : Gp E RX9 cX9_looks (some .int) 8 (10) SH0 r.2 (some (.int r.1)) σ 140 [(0, .ref 149), (1, .int v1), (3, .int v3), (4, .int v4), (5, .int v5), (7, .int v7)] [.int s0] := by
  intro Z C hE
  unfold X9_looks_j140 at h
  refine r_istore_n (pc' := 141) (lv2 := [(2, .int s0), (0, .ref 149), (1, .int v1), (3, .int v3), (4, .int v4), (5, .int v5), (7, .int v7)]) C dX9_looks_140 rfl rfl (Nat.le_of_ble_eq_true rfl) rfl ?_
  refine r_iload_n (pc' := 142) C dX9_looks_141 rfl 3 rfl ?_
  refine r_iload (pc' := 144) C dX9_looks_142 rfl 6 rfl ?_
  obtain ⟨r27, e28, h⟩ := bd h
  refine r_cS1 (pc' := 147) C (J9_min_7cf53_ok  e28) mlX9_150 ceJ9_min_7cf53 csJ9_min_7cf53 rfl (Nat.le_of_ble_eq_true rfl) rfl (Nat.le_of_ble_eq_true rfl) dX9_looks_144 rfl (kk := ?_)
  refine r_istore_n (pc' := 148) (lv2 := [(3, .int r27), (2, .int s0), (0, .ref 149), (1, .int v1), (4, .int v4), (5, .int v5), (7, .int v7)]) C dX9_looks_147 rfl rfl (Nat.le_of_ble_eq_true rfl) rfl ?_
  refine r_iinc (pc' := 151) (v := v5 + 1) (lv2 := [(5, .int (v5 + 1)), (3, .int r27), (2, .int s0), (0, .ref 149), (1, .int v1), (4, .int v4), (7, .int v7)]) C dX9_looks_148 rfl 5 rfl rfl (Nat.le_of_ble_eq_true rfl) rfl ?_
  refine r_goto (tgt := 38) C dX9_looks_151 rfl ?_
  refine r_sub [3, 4, 2, 1, 5, 0] rfl ?_
  exact hkr _ _ _ _ _ _ _ h Z C hE
def X9_looks_j108 (N : Nat)  (kr : Int32 → Int32 → Int32 → Int32 → Int32 → Sg → Option (Int32 × Sg)) (v1 : Int32) (v2 : Int32) (v3 : Int32) (v4 : Int32) (v5 : Int32) (v6 : Int32) (σ : Sg) : Option (Int32 × Sg) :=
  (J6_bitCount_0f7a4 N v1 σ).bind fun r22 => ((J9_max_7cf53 N v6 (r22 - v6) σ).bind fun r24 => (if v3 ≤ r24 then (X9_looks_j140 N kr v1 v3 v4 v5 r24 v2 σ) else (X9_looks_j140 N kr v1 v3 v4 v5 r24 ((21 * v4) + v5) σ)))
set_option maxRecDepth 100000 in
set_option maxHeartbeats 4000000 in
theorem X9_looks_j108_ok {E : Ev}  {N : Nat} {kr : Int32 → Int32 → Int32 → Int32 → Int32 → Sg → Option (Int32 × Sg)}  (hkr : ∀ (v1 : Int32) (v2 : Int32) (v3 : Int32) (v4 : Int32) (v5 : Int32) (σ : Sg) (r : Int32 × Sg), kr v1 v2 v3 v4 v5 σ = some r → Gp E RX9 cX9_looks (some .int) 8 (10) SH0 r.2 (some (.int r.1)) σ 38 [(0, .ref 149), (1, .int v1), (2, .int v2), (3, .int v3), (4, .int v4), (5, .int v5)] []) {v1 : Int32} {v2 : Int32} {v3 : Int32} {v4 : Int32} {v5 : Int32} {v6 : Int32} {σ : Sg} {r : Int32 × Sg} (h : X9_looks_j108 N  kr v1 v2 v3 v4 v5 v6 σ = some r) : Gp E RX9 cX9_looks (some .int) 8 (10) SH0 r.2 (some (.int r.1)) σ 108 [(0, .ref 149), (1, .int v1), (2, .int v2), (3, .int v3), (4, .int v4), (5, .int v5), (6, .int v6)] [] := by
  intro Z C hE
  unfold X9_looks_j108 at h
  refine r_iload (pc' := 110) C dX9_looks_108 rfl 6 rfl ?_
  refine r_iload_n (pc' := 111) C dX9_looks_110 rfl 1 rfl ?_
  obtain ⟨r22, e23, h⟩ := bd h
  refine r_cS1 (pc' := 114) C (J6_bitCount_0f7a4_ok  e23) mlX9_135 ceJ6_bitCount_0f7a4 csJ6_bitCount_0f7a4 rfl (Nat.le_of_ble_eq_true rfl) rfl (Nat.le_of_ble_eq_true rfl) dX9_looks_111 rfl (kk := ?_)
  refine r_iload (pc' := 116) C dX9_looks_114 rfl 6 rfl ?_
  refine r_isub (pc' := 117) C dX9_looks_116 rfl ?_
  obtain ⟨r24, e25, h⟩ := bd h
  refine r_cS1 (pc' := 120) C (J9_max_7cf53_ok  e25) mlX9_267 ceJ9_max_7cf53 csJ9_max_7cf53 rfl (Nat.le_of_ble_eq_true rfl) rfl (Nat.le_of_ble_eq_true rfl) dX9_looks_117 rfl (kk := ?_)
  refine r_istore (pc' := 122) (lv2 := [(7, .int r24), (0, .ref 149), (1, .int v1), (2, .int v2), (3, .int v3), (4, .int v4), (5, .int v5), (6, .int v6)]) C dX9_looks_120 rfl (Nat.le_of_ble_eq_true rfl) rfl ?_
  refine r_iload (pc' := 124) C dX9_looks_122 rfl 0 rfl ?_
  refine r_iload_n (pc' := 125) C dX9_looks_124 rfl 4 rfl ?_
  refine r_icmp_ge (tgt := 139) (pc' := 128) C dX9_looks_125 rfl rfl (fun c26 => ?_) (fun c26 => ?_)
  · rw [if_pos c26] at h
    refine r_iload_n (pc' := 140) C dX9_looks_139 rfl 3 rfl ?_
    refine r_sub [1, 2, 4, 5, 6, 0] rfl ?_
    exact X9_looks_j140_ok  hkr h Z C hE
  · rw [if_neg c26] at h
    refine r_bipush (pc' := 130) C dX9_looks_128 rfl kb_21 ?_
    refine r_iload (pc' := 132) C dX9_looks_130 rfl 5 rfl ?_
    refine r_imul (pc' := 133) C dX9_looks_132 rfl ?_
    refine r_iload (pc' := 135) C dX9_looks_133 rfl 6 rfl ?_
    refine r_iadd (pc' := 136) C dX9_looks_135 rfl ?_
    refine r_goto (tgt := 140) C dX9_looks_136 rfl ?_
    refine r_sub [1, 2, 4, 5, 6, 0] rfl ?_
    exact X9_looks_j140_ok  hkr h Z C hE
def X9_looks_l38 (N : Nat)  (k154 : Int32 → Int32 → Int32 → Int32 → Sg → Option (Int32 × Sg))  : Nat → Int32 → Int32 → Int32 → Int32 → Int32 → Sg → Option (Int32 × Sg)
  | 0, _, _, _, _, _, _ => none
  | n + 1, v1, v2, v3, v4, v5, σ =>
    if 20 < v5 then (k154 v1 v2 v3 v4 σ) else (X9_looks_l51 N (fun v1 v2 v3 v4 v5 v6 σ => X9_looks_j108 N (fun v1 v2 v3 v4 v5 σ => X9_looks_l38 N k154 n v1 v2 v3 v4 v5 σ) v1 v2 v3 v4 v5 v6 σ) N v1 v2 v3 v4 v5 0 0 σ)
set_option maxRecDepth 100000 in
set_option maxHeartbeats 4000000 in
theorem X9_looks_l38_ok {E : Ev}  {N : Nat} {k154 : Int32 → Int32 → Int32 → Int32 → Sg → Option (Int32 × Sg)}  (hk154 : ∀ (v1 : Int32) (v2 : Int32) (v3 : Int32) (v4 : Int32) (σ : Sg) (r : Int32 × Sg), k154 v1 v2 v3 v4 σ = some r → Gp E RX9 cX9_looks (some .int) 8 (10) SH0 r.2 (some (.int r.1)) σ 154 [(0, .ref 149), (1, .int v1), (2, .int v2), (3, .int v3), (4, .int v4)] []) : ∀ (n : Nat) (v1 : Int32) (v2 : Int32) (v3 : Int32) (v4 : Int32) (v5 : Int32) (σ : Sg) (r : Int32 × Sg), X9_looks_l38 N k154 n v1 v2 v3 v4 v5 σ = some r → Gp E RX9 cX9_looks (some .int) 8 (10) SH0 r.2 (some (.int r.1)) σ 38 [(0, .ref 149), (1, .int v1), (2, .int v2), (3, .int v3), (4, .int v4), (5, .int v5)] [] := by
  intro n
  induction n with
  | zero => intro v1 v2 v3 v4 v5 σ r h; cases h
  | succ n ih =>
    intro v1 v2 v3 v4 v5 σ r h Z C hE
    unfold X9_looks_l38 at h
    refine r_iload (pc' := 40) C dX9_looks_38 rfl 5 rfl ?_
    refine r_bipush (pc' := 42) C dX9_looks_40 rfl kb_20 ?_
    refine r_icmp_gt (tgt := 154) (pc' := 45) C dX9_looks_42 rfl rfl (fun c7 => ?_) (fun c7 => ?_)
    · rw [if_pos c7] at h
      refine r_sub [0, 1, 2, 3, 4] rfl ?_
      exact hk154 _ _ _ _ _ _ h Z C hE
    · rw [if_neg c7] at h
      refine r_iconst (pc' := 46) C dX9_looks_45 rfl kc_0 ?_
      refine r_istore (pc' := 48) (lv2 := [(6, .int 0), (0, .ref 149), (1, .int v1), (2, .int v2), (3, .int v3), (4, .int v4), (5, .int v5)]) C dX9_looks_46 rfl (Nat.le_of_ble_eq_true rfl) rfl ?_
      refine r_iconst (pc' := 49) C dX9_looks_48 rfl kc_0 ?_
      refine r_istore (pc' := 51) (lv2 := [(7, .int 0), (6, .int 0), (0, .ref 149), (1, .int v1), (2, .int v2), (3, .int v3), (4, .int v4), (5, .int v5)]) C dX9_looks_49 rfl (Nat.le_of_ble_eq_true rfl) rfl ?_
      refine r_sub [2, 3, 4, 5, 6, 7, 1, 0] rfl ?_
      exact X9_looks_l51_ok  (fun _ _ _ _ _ _ _ _ h Z C hE => by exact X9_looks_j108_ok  ih h Z C hE) N _ _ _ _ _ _ _ _ _ h Z C hE
def X9_looks_j154 (N : Nat)  (kr : Int32 → Int32 → Int32 → Int32 → Sg → Option (Int32 × Sg)) (v1 : Int32) (v2 : Int32) (v3 : Int32) (v4 : Int32) (σ : Sg) : Option (Int32 × Sg) :=
  kr v1 v2 v3 (v4 + 1) σ
set_option maxRecDepth 100000 in
set_option maxHeartbeats 4000000 in
theorem X9_looks_j154_ok {E : Ev}  {N : Nat} {kr : Int32 → Int32 → Int32 → Int32 → Sg → Option (Int32 × Sg)}  (hkr : ∀ (v1 : Int32) (v2 : Int32) (v3 : Int32) (v4 : Int32) (σ : Sg) (r : Int32 × Sg), kr v1 v2 v3 v4 σ = some r → Gp E RX9 cX9_looks (some .int) 8 (10) SH0 r.2 (some (.int r.1)) σ 26 [(0, .ref 149), (1, .int v1), (2, .int v2), (3, .int v3), (4, .int v4)] []) {v1 : Int32} {v2 : Int32} {v3 : Int32} {v4 : Int32} {σ : Sg} {r : Int32 × Sg} (h : X9_looks_j154 N  kr v1 v2 v3 v4 σ = some r) : Gp E RX9 cX9_looks (some .int) 8 (10) SH0 r.2 (some (.int r.1)) σ 154 [(0, .ref 149), (1, .int v1), (2, .int v2), (3, .int v3), (4, .int v4)] [] := by
  intro Z C hE
  unfold X9_looks_j154 at h
  refine r_iinc (pc' := 157) (v := v4 + 1) (lv2 := [(4, .int (v4 + 1)), (0, .ref 149), (1, .int v1), (2, .int v2), (3, .int v3)]) C dX9_looks_154 rfl 4 rfl rfl (Nat.le_of_ble_eq_true rfl) rfl ?_
  refine r_goto (tgt := 26) C dX9_looks_157 rfl ?_
  refine r_sub [1, 2, 3, 4, 0] rfl ?_
  exact hkr _ _ _ _ _ _ h Z C hE
def X9_looks_l26 (N : Nat)  (k160 : Int32 → Int32 → Sg → Option (Int32 × Sg))  : Nat → Int32 → Int32 → Int32 → Int32 → Sg → Option (Int32 × Sg)
  | 0, _, _, _, _, _ => none
  | n + 1, v1, v2, v3, v4, σ =>
    if (gi σ 149 3) ≤ v4 then (k160 v2 v3 σ) else (X9_looks_l38 N (fun v1 v2 v3 v4 σ => X9_looks_j154 N (fun v1 v2 v3 v4 σ => X9_looks_l26 N k160 n v1 v2 v3 v4 σ) v1 v2 v3 v4 σ) N v1 v2 v3 v4 0 σ)
set_option maxRecDepth 100000 in
set_option maxHeartbeats 4000000 in
theorem X9_looks_l26_ok {E : Ev}  {N : Nat} {k160 : Int32 → Int32 → Sg → Option (Int32 × Sg)}  (hk160 : ∀ (v2 : Int32) (v3 : Int32) (σ : Sg) (r : Int32 × Sg), k160 v2 v3 σ = some r → Gp E RX9 cX9_looks (some .int) 8 (10) SH0 r.2 (some (.int r.1)) σ 160 [(0, .ref 149), (2, .int v2), (3, .int v3)] []) : ∀ (n : Nat) (v1 : Int32) (v2 : Int32) (v3 : Int32) (v4 : Int32) (σ : Sg) (r : Int32 × Sg), X9_looks_l26 N k160 n v1 v2 v3 v4 σ = some r → Gp E RX9 cX9_looks (some .int) 8 (10) SH0 r.2 (some (.int r.1)) σ 26 [(0, .ref 149), (1, .int v1), (2, .int v2), (3, .int v3), (4, .int v4)] [] := by
  intro n
  induction n with
  | zero => intro v1 v2 v3 v4 σ r h; cases h
  | succ n ih =>
    intro v1 v2 v3 v4 σ r h Z C hE
    unfold X9_looks_l26 at h
    refine r_iload (pc' := 28) C dX9_looks_26 rfl 4 rfl ?_
    refine r_aload_n (pc' := 29) C dX9_looks_28 rfl 0 rfl ?_
    refine r_getI (pc' := 32) C flX9_116 sh_149 rfl dX9_looks_29 rfl ?_
    refine r_icmp_ge (tgt := 160) (pc' := 35) C dX9_looks_32 rfl rfl (fun c6 => ?_) (fun c6 => ?_)
    · rw [if_pos c6] at h
      refine r_sub [0, 2, 3] rfl ?_
      exact hk160 _ _ _ _ h Z C hE
    · rw [if_neg c6] at h
      refine r_iconst (pc' := 36) C dX9_looks_35 rfl kc_0 ?_
      refine r_istore (pc' := 38) (lv2 := [(5, .int 0), (0, .ref 149), (1, .int v1), (2, .int v2), (3, .int v3), (4, .int v4)]) C dX9_looks_36 rfl (Nat.le_of_ble_eq_true rfl) rfl ?_
      refine r_sub [1, 2, 3, 4, 5, 0] rfl ?_
      exact X9_looks_l38_ok  (fun _ _ _ _ _ _ h Z C hE => by exact X9_looks_j154_ok  ih h Z C hE) N _ _ _ _ _ _ _ h Z C hE
def X9_looks_j160 (N : Nat)   (v2 : Int32) (v3 : Int32) (σ : Sg) : Option (Int32 × Sg) :=
  bnS (wi σ 149 1 0) fun σ29 => (X9_enters N v3.toInt64 σ29).bind fun r31 => (some (v2, r31))
set_option maxRecDepth 100000 in
set_option maxHeartbeats 4000000 in
theorem X9_looks_j160_ok {E : Ev}  {N : Nat}    {v2 : Int32} {v3 : Int32} {σ : Sg} {r : Int32 × Sg} (h : X9_looks_j160 N   v2 v3 σ = some r) : Gp E RX9 cX9_looks (some .int) 8 (10) SH0 r.2 (some (.int r.1)) σ 160 [(0, .ref 149), (2, .int v2), (3, .int v3)] [] := by
  intro Z C hE
  unfold X9_looks_j160 at h
  refine r_aload_n (pc' := 161) C dX9_looks_160 rfl 0 rfl ?_
  refine r_iconst (pc' := 162) C dX9_looks_161 rfl kc_0 ?_
  obtain ⟨σ29, e30, h⟩ := bs h
  refine r_putI (pc' := 165) (σ1 := σ29) C fpX9_15 sh_149 rfl rfl rfl dX9_looks_162 rfl e30 ?_
  refine r_aload_n (pc' := 166) C dX9_looks_165 rfl 0 rfl ?_
  refine r_iload_n (pc' := 167) C dX9_looks_166 rfl 2 rfl ?_
  refine r_i2l (pc' := 168) C dX9_looks_167 rfl rfl ?_
  obtain ⟨r31, e32, h⟩ := bd h
  refine r_cV0 (pc' := 171) C (X9_enters_ok  e32) mlX9_327 ceX9_enters cvX9_enters sh_149 rfl rfl rfl (Nat.le_of_ble_eq_true rfl) rfl (Nat.le_of_ble_eq_true rfl) dX9_looks_168 rfl (kk := ?_)
  refine r_iload_n (pc' := 172) C dX9_looks_171 rfl 1 rfl ?_
  have h := Option.some.inj h
  subst h
  exact r_ret C rfl dX9_looks_172 hE
def X9_looks (N : Nat)   (σ : Sg) : Option (Int32 × Sg) :=
  bnS (wi σ 149 0 0) fun σ1 => (X9_fitting N σ1).bind fun r3 => (if r3.1 = 0 then (some ((-2), r3.2)) else (X9_looks_l26 N (fun v2 v3 σ => X9_looks_j160 N v2 v3 σ) N r3.1 (-1) 1000000 0 r3.2))
set_option maxRecDepth 100000 in
set_option maxHeartbeats 4000000 in
theorem X9_looks_ok {E : Ev}  {N : Nat}  {σ : Sg} {r : Int32 × Sg} (h : X9_looks N   σ = some r) : Cm E (10) yX9_looks cX9_looks 8 (some .int) [.ref 149] SH0 SH0 σ r.2 (some (.int r.1)) 0 0 := by
  refine Cm.intro (by decide +kernel) (Nat.le_of_ble_eq_true rfl) (fun _ h => by obtain ⟨_, _, _, _, _, _, h⟩ := h; exact h) (fun Z C hE => ?_)
  show Wm E Z 0 0 SH0 σ 0 [(0, .ref 149)] []
  unfold X9_looks at h
  refine r_aload_n (pc' := 1) C dX9_looks_0 rfl 0 rfl ?_
  refine r_iconst (pc' := 2) C dX9_looks_1 rfl kc_0 ?_
  obtain ⟨σ1, e2, h⟩ := bs h
  refine r_putI (pc' := 5) (σ1 := σ1) C fpX9_3 sh_149 rfl rfl rfl dX9_looks_2 rfl e2 ?_
  refine r_aload_n (pc' := 6) C dX9_looks_5 rfl 0 rfl ?_
  obtain ⟨r3, e4, h⟩ := bd h
  refine r_cV1 (pc' := 9) C (X9_fitting_ok  e4) mlX9_390 ceX9_fitting cvX9_fitting sh_149 rfl rfl rfl (Nat.le_of_ble_eq_true rfl) rfl (Nat.le_of_ble_eq_true rfl) dX9_looks_6 rfl (kk := ?_)
  refine r_istore_n (pc' := 10) (lv2 := [(1, .int r3.1), (0, .ref 149)]) C dX9_looks_9 rfl rfl (Nat.le_of_ble_eq_true rfl) rfl ?_
  refine r_iload_n (pc' := 11) C dX9_looks_10 rfl 0 rfl ?_
  refine r_if_ne (tgt := 17) (pc' := 14) C dX9_looks_11 rfl rfl (fun c5 => ?_) (fun c5 => ?_)
  · rw [if_neg c5] at h
    refine r_iconst (pc' := 18) C dX9_looks_17 rfl kc_m1 ?_
    refine r_istore_n (pc' := 19) (lv2 := [(2, .int (-1)), (1, .int r3.1), (0, .ref 149)]) C dX9_looks_18 rfl rfl (Nat.le_of_ble_eq_true rfl) rfl ?_
    refine r_ldcw (pc' := 22) C cnX9_365 dX9_looks_19 rfl ?_
    refine r_istore_n (pc' := 23) (lv2 := [(3, .int 1000000), (2, .int (-1)), (1, .int r3.1), (0, .ref 149)]) C dX9_looks_22 rfl rfl (Nat.le_of_ble_eq_true rfl) rfl ?_
    refine r_iconst (pc' := 24) C dX9_looks_23 rfl kc_0 ?_
    refine r_istore (pc' := 26) (lv2 := [(4, .int 0), (3, .int 1000000), (2, .int (-1)), (1, .int r3.1), (0, .ref 149)]) C dX9_looks_24 rfl (Nat.le_of_ble_eq_true rfl) rfl ?_
    refine r_sub [4, 3, 2, 1, 0] rfl ?_
    exact X9_looks_l26_ok  (fun _ _ _ _ h Z C hE => by exact X9_looks_j160_ok  h Z C hE) N _ _ _ _ _ _ h Z C hE
  · rw [if_pos c5] at h
    refine r_bipush (pc' := 16) C dX9_looks_14 rfl kb_m2 ?_
    have h := Option.some.inj h
    subst h
    exact r_ret C rfl dX9_looks_16 hE
