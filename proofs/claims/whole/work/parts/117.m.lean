/-! BorrowedWeightModel.law()I -/
def X9_law_l42 (N : Nat)  (k71 : Int32 → Int32 → Sg → Option (Int32 × Sg))  : Nat → Int32 → Int32 → Int32 → Sg → Option (Int32 × Sg)
  | 0, _, _, _, _ => none
  | n + 1, v2, v3, v4, σ =>
    if (gi σ 149 19) ≤ v4 then (k71 v2 v3 σ) else (if inb v4 80 = true then if inb v4 80 = true then bnS (wi σ 176 v4.toNatClampNeg (gi σ 157 v4.toNatClampNeg)) fun σ13 => X9_law_l42 N k71 n v2 v3 (v4 + 1) σ13 else none else none)
set_option maxRecDepth 100000 in
set_option maxHeartbeats 4000000 in
theorem X9_law_l42_ok {E : Ev}  {N : Nat} {k71 : Int32 → Int32 → Sg → Option (Int32 × Sg)}  (hk71 : ∀ (v2 : Int32) (v3 : Int32) (σ : Sg) (r : Int32 × Sg), k71 v2 v3 σ = some r → Gp E RX9 cX9_law (some .int) 6 (214) SH0 r.2 (some (.int r.1)) σ 71 [(0, .ref 149), (2, .int v2), (3, .int v3)] []) : ∀ (n : Nat) (v2 : Int32) (v3 : Int32) (v4 : Int32) (σ : Sg) (r : Int32 × Sg), X9_law_l42 N k71 n v2 v3 v4 σ = some r → Gp E RX9 cX9_law (some .int) 6 (214) SH0 r.2 (some (.int r.1)) σ 42 [(0, .ref 149), (2, .int v2), (3, .int v3), (4, .int v4)] [] := by
  intro n
  induction n with
  | zero => intro v2 v3 v4 σ r h; cases h
  | succ n ih =>
    intro v2 v3 v4 σ r h Z C hE
    unfold X9_law_l42 at h
    refine r_iload (pc' := 44) C dX9_law_42 rfl 3 rfl ?_
    refine r_aload_n (pc' := 45) C dX9_law_44 rfl 0 rfl ?_
    refine r_getI (pc' := 48) C flX9_247 sh_149 rfl dX9_law_45 rfl ?_
    refine r_icmp_ge (tgt := 71) (pc' := 51) C dX9_law_48 rfl rfl (fun c10 => ?_) (fun c10 => ?_)
    · rw [if_pos c10] at h
      refine r_sub [0, 1, 2] rfl ?_
      exact hk71 _ _ _ _ h Z C hE
    · rw [if_neg c10] at h
      refine r_aload_n (pc' := 52) C dX9_law_51 rfl 0 rfl ?_
      refine r_getR (pc' := 55) C flX9_104 sh_149 rfl dX9_law_52 rfl ?_
      refine r_iload (pc' := 57) C dX9_law_55 rfl 3 rfl ?_
      refine r_aload_n (pc' := 58) C dX9_law_57 rfl 0 rfl ?_
      refine r_getR (pc' := 61) C flX9_46 sh_149 rfl dX9_law_58 rfl ?_
      refine r_iload (pc' := 63) C dX9_law_61 rfl 3 rfl ?_
      obtain ⟨q11, h⟩ := ck h
      refine r_iald (pc' := 64) C sh_157 (vin q11) dX9_law_63 rfl ?_
      obtain ⟨q12, h⟩ := ck h
      obtain ⟨σ13, e14, h⟩ := bs h
      refine r_iast (pc' := 65) (σ1 := σ13) C sh_176 (vin q12) dX9_law_64 rfl e14 ?_
      refine r_iinc (pc' := 68) (v := v4 + 1) (lv2 := [(4, .int (v4 + 1)), (0, .ref 149), (2, .int v2), (3, .int v3)]) C dX9_law_65 rfl 3 rfl rfl (Nat.le_of_ble_eq_true rfl) rfl ?_
      refine r_goto (tgt := 42) C dX9_law_68 rfl ?_
      refine r_sub [1, 2, 3, 0] rfl ?_
      exact ih _ _ _ _ _ h Z C hE
def X9_law_l117 (N : Nat)  (k147 : Int32 → Int32 → Int32 → Sg → Option (Int32 × Sg))  : Nat → Int32 → Int32 → Int32 → Int32 → Sg → Option (Int32 × Sg)
  | 0, _, _, _, _, _ => none
  | n + 1, v2, v3, v4, v5, σ =>
    if (gi σ 149 3) ≤ v5 then (k147 v2 v3 v4 σ) else ((X9_need N 153 v5 σ).bind fun r28 => ((X9_enters N r28.1.toInt64 r28.2).bind fun r30 => (X9_law_l117 N k147 n v2 v3 v4 (v5 + 1) r30)))
set_option maxRecDepth 100000 in
set_option maxHeartbeats 4000000 in
theorem X9_law_l117_ok {E : Ev}  {N : Nat} {k147 : Int32 → Int32 → Int32 → Sg → Option (Int32 × Sg)}  (hk147 : ∀ (v2 : Int32) (v3 : Int32) (v4 : Int32) (σ : Sg) (r : Int32 × Sg), k147 v2 v3 v4 σ = some r → Gp E RX9 cX9_law (some .int) 6 (214) SH0 r.2 (some (.int r.1)) σ 147 [(0, .ref 149), (2, .int v2), (3, .int v3), (4, .int v4)] []) : ∀ (n : Nat) (v2 : Int32) (v3 : Int32) (v4 : Int32) (v5 : Int32) (σ : Sg) (r : Int32 × Sg), X9_law_l117 N k147 n v2 v3 v4 v5 σ = some r → Gp E RX9 cX9_law (some .int) 6 (214) SH0 r.2 (some (.int r.1)) σ 117 [(0, .ref 149), (2, .int v2), (3, .int v3), (4, .int v4), (5, .int v5)] [] := by
  intro n
  induction n with
  | zero => intro v2 v3 v4 v5 σ r h; cases h
  | succ n ih =>
    intro v2 v3 v4 v5 σ r h Z C hE
    unfold X9_law_l117 at h
    refine r_iload (pc' := 119) C dX9_law_117 rfl 4 rfl ?_
    refine r_aload_n (pc' := 120) C dX9_law_119 rfl 0 rfl ?_
    refine r_getI (pc' := 123) C flX9_116 sh_149 rfl dX9_law_120 rfl ?_
    refine r_icmp_ge (tgt := 147) (pc' := 126) C dX9_law_123 rfl rfl (fun c27 => ?_) (fun c27 => ?_)
    · rw [if_pos c27] at h
      refine r_sub [0, 1, 2, 3] rfl ?_
      exact hk147 _ _ _ _ _ h Z C hE
    · rw [if_neg c27] at h
      refine r_aload_n (pc' := 127) C dX9_law_126 rfl 0 rfl ?_
      refine r_aload_n (pc' := 128) C dX9_law_127 rfl 0 rfl ?_
      refine r_aload_n (pc' := 129) C dX9_law_128 rfl 0 rfl ?_
      refine r_getR (pc' := 132) C flX9_34 sh_149 rfl dX9_law_129 rfl ?_
      refine r_iload (pc' := 134) C dX9_law_132 rfl 4 rfl ?_
      obtain ⟨r28, e29, h⟩ := bd h
      refine r_cV1 (pc' := 137) C (X9_need_ok mac_153 e29) mlX9_270 ceX9_need cvX9_need sh_149 rfl rfl rfl (Nat.le_of_ble_eq_true rfl) rfl (Nat.le_of_ble_eq_true rfl) dX9_law_134 rfl (kk := ?_)
      refine r_i2l (pc' := 138) C dX9_law_137 rfl rfl ?_
      obtain ⟨r30, e31, h⟩ := bd h
      refine r_cV0 (pc' := 141) C (X9_enters_ok  e31) mlX9_327 ceX9_enters cvX9_enters sh_149 rfl rfl rfl (Nat.le_of_ble_eq_true rfl) rfl (Nat.le_of_ble_eq_true rfl) dX9_law_138 rfl (kk := ?_)
      refine r_iinc (pc' := 144) (v := v5 + 1) (lv2 := [(5, .int (v5 + 1)), (0, .ref 149), (2, .int v2), (3, .int v3), (4, .int v4)]) C dX9_law_141 rfl 4 rfl rfl (Nat.le_of_ble_eq_true rfl) rfl ?_
      refine r_goto (tgt := 117) C dX9_law_144 rfl ?_
      refine r_sub [1, 2, 3, 4, 0] rfl ?_
      exact ih _ _ _ _ _ _ h Z C hE
def X9_law_j147 (N : Nat)   (v2 : Int32) (v3 : Int32) (v4 : Int32) (σ : Sg) : Option (Int32 × Sg) :=
  (X9_laysCode N 176 v3 σ).bind fun r32 => (some (v4 - v2, r32))
set_option maxRecDepth 100000 in
set_option maxHeartbeats 4000000 in
theorem X9_law_j147_ok {E : Ev}  {N : Nat}    {v2 : Int32} {v3 : Int32} {v4 : Int32} {σ : Sg} {r : Int32 × Sg} (h : X9_law_j147 N   v2 v3 v4 σ = some r) : Gp E RX9 cX9_law (some .int) 6 (214) SH0 r.2 (some (.int r.1)) σ 147 [(0, .ref 149), (2, .int v2), (3, .int v3), (4, .int v4)] [] := by
  intro Z C hE
  unfold X9_law_j147 at h
  refine r_aload_n (pc' := 148) C dX9_law_147 rfl 0 rfl ?_
  refine r_aload_n (pc' := 149) C dX9_law_148 rfl 0 rfl ?_
  refine r_getR (pc' := 152) C flX9_104 sh_149 rfl dX9_law_149 rfl ?_
  refine r_iload_n (pc' := 153) C dX9_law_152 rfl 2 rfl ?_
  obtain ⟨r32, e33, h⟩ := bd h
  refine r_cV0 (pc' := 156) C (X9_laysCode_ok mbc_176 e33) mlX9_253 ceX9_laysCode cvX9_laysCode sh_149 rfl rfl rfl (Nat.le_of_ble_eq_true rfl) rfl (Nat.le_of_ble_eq_true rfl) dX9_law_153 rfl (kk := ?_)
  refine r_iload (pc' := 158) C dX9_law_156 rfl 3 rfl ?_
  refine r_iload_n (pc' := 159) C dX9_law_158 rfl 1 rfl ?_
  refine r_isub (pc' := 160) C dX9_law_159 rfl ?_
  have h := Option.some.inj h
  subst h
  exact r_ret C rfl dX9_law_160 hE
def X9_law_j71 (N : Nat)   (v2 : Int32) (v3 : Int32) (σ : Sg) : Option (Int32 × Sg) :=
  (X9_laysCode N 158 (gi σ 149 20) σ).bind fun r15 => ((X9_floating N 153 r15).bind fun r17 => ((J6_bitCount_0f7a4 N r17.1 r17.2).bind fun r19 => (bnS (wi r17.2 149 1 0) fun σ21 => (X9_enters N r19.toInt64 σ21).bind fun r23 => ((X9_enters N v2.toInt64 r23).bind fun r25 => (X9_law_l117 N (fun v2 v3 v4 σ => X9_law_j147 N v2 v3 v4 σ) N v2 v3 r19 0 r25)))))
set_option maxRecDepth 100000 in
set_option maxHeartbeats 4000000 in
theorem X9_law_j71_ok {E : Ev}  {N : Nat}    {v2 : Int32} {v3 : Int32} {σ : Sg} {r : Int32 × Sg} (h : X9_law_j71 N   v2 v3 σ = some r) : Gp E RX9 cX9_law (some .int) 6 (214) SH0 r.2 (some (.int r.1)) σ 71 [(0, .ref 149), (2, .int v2), (3, .int v3)] [] := by
  intro Z C hE
  unfold X9_law_j71 at h
  refine r_aload_n (pc' := 72) C dX9_law_71 rfl 0 rfl ?_
  refine r_aload_n (pc' := 73) C dX9_law_72 rfl 0 rfl ?_
  refine r_getR (pc' := 76) C flX9_49 sh_149 rfl dX9_law_73 rfl ?_
  refine r_aload_n (pc' := 77) C dX9_law_76 rfl 0 rfl ?_
  refine r_getI (pc' := 80) C flX9_222 sh_149 rfl dX9_law_77 rfl ?_
  obtain ⟨r15, e16, h⟩ := bd h
  refine r_cV0 (pc' := 83) C (X9_laysCode_ok mbc_158 e16) mlX9_253 ceX9_laysCode cvX9_laysCode sh_149 rfl rfl rfl (Nat.le_of_ble_eq_true rfl) rfl (Nat.le_of_ble_eq_true rfl) dX9_law_80 rfl (kk := ?_)
  refine r_aload_n (pc' := 84) C dX9_law_83 rfl 0 rfl ?_
  refine r_aload_n (pc' := 85) C dX9_law_84 rfl 0 rfl ?_
  refine r_getR (pc' := 88) C flX9_34 sh_149 rfl dX9_law_85 rfl ?_
  obtain ⟨r17, e18, h⟩ := bd h
  refine r_cV1 (pc' := 91) C (X9_floating_ok mac_153 e18) mlX9_303 ceX9_floating cvX9_floating sh_149 rfl rfl rfl (Nat.le_of_ble_eq_true rfl) rfl (Nat.le_of_ble_eq_true rfl) dX9_law_88 rfl (kk := ?_)
  obtain ⟨r19, e20, h⟩ := bd h
  refine r_cS1 (pc' := 94) C (J6_bitCount_0f7a4_ok  e20) mlX9_135 ceJ6_bitCount_0f7a4 csJ6_bitCount_0f7a4 rfl (Nat.le_of_ble_eq_true rfl) rfl (Nat.le_of_ble_eq_true rfl) dX9_law_91 rfl (kk := ?_)
  refine r_istore (pc' := 96) (lv2 := [(4, .int r19), (0, .ref 149), (2, .int v2), (3, .int v3)]) C dX9_law_94 rfl (Nat.le_of_ble_eq_true rfl) rfl ?_
  refine r_aload_n (pc' := 97) C dX9_law_96 rfl 1 rfl ?_
  refine r_iconst (pc' := 98) C dX9_law_97 rfl kc_0 ?_
  obtain ⟨σ21, e22, h⟩ := bs h
  refine r_putI (pc' := 101) (σ1 := σ21) C fpX9_15 sh_149 rfl rfl rfl dX9_law_98 rfl e22 ?_
  refine r_aload_n (pc' := 102) C dX9_law_101 rfl 1 rfl ?_
  refine r_iload (pc' := 104) C dX9_law_102 rfl 0 rfl ?_
  refine r_i2l (pc' := 105) C dX9_law_104 rfl rfl ?_
  obtain ⟨r23, e24, h⟩ := bd h
  refine r_cV0 (pc' := 108) C (X9_enters_ok  e24) mlX9_327 ceX9_enters cvX9_enters sh_149 rfl rfl rfl (Nat.le_of_ble_eq_true rfl) rfl (Nat.le_of_ble_eq_true rfl) dX9_law_105 rfl (kk := ?_)
  refine r_aload_n (pc' := 109) C dX9_law_108 rfl 1 rfl ?_
  refine r_iload_n (pc' := 110) C dX9_law_109 rfl 2 rfl ?_
  refine r_i2l (pc' := 111) C dX9_law_110 rfl rfl ?_
  obtain ⟨r25, e26, h⟩ := bd h
  refine r_cV0 (pc' := 114) C (X9_enters_ok  e26) mlX9_327 ceX9_enters cvX9_enters sh_149 rfl rfl rfl (Nat.le_of_ble_eq_true rfl) rfl (Nat.le_of_ble_eq_true rfl) dX9_law_111 rfl (kk := ?_)
  refine r_iconst (pc' := 115) C dX9_law_114 rfl kc_0 ?_
  refine r_istore (pc' := 117) (lv2 := [(5, .int 0), (4, .int r19), (0, .ref 149), (2, .int v2), (3, .int v3)]) C dX9_law_115 rfl (Nat.le_of_ble_eq_true rfl) rfl ?_
  refine r_sub [2, 3, 4, 1, 0] rfl ?_
  exact X9_law_l117_ok  (fun _ _ _ _ _ h Z C hE => by exact X9_law_j147_ok  h Z C hE) N _ _ _ _ _ _ h Z C hE
def X9_law (N : Nat)   (σ : Sg) : Option (Int32 × Sg) :=
  bnS (wi σ 149 0 0) fun σ1 => (X9_readsRule N σ1).bind fun r3 => (if 0 ≤ r3.1 then ((X9_floating N 153 r3.2).bind fun r6 => ((J6_bitCount_0f7a4 N r6.1 r6.2).bind fun r8 => (X9_law_l42 N (fun v2 v3 σ => X9_law_j71 N v2 v3 σ) N r8 (gi r6.2 149 19) 0 r6.2))) else (some ((r3.1 + 1) - 10000, r3.2)))
set_option maxRecDepth 100000 in
set_option maxHeartbeats 4000000 in
theorem X9_law_ok {E : Ev}  {N : Nat}  {σ : Sg} {r : Int32 × Sg} (h : X9_law N   σ = some r) : Cm E (214) yX9_law cX9_law 6 (some .int) [.ref 149] SH0 SH0 σ r.2 (some (.int r.1)) 0 0 := by
  refine Cm.intro (by decide +kernel) (Nat.le_of_ble_eq_true rfl) (fun _ h => by obtain ⟨_, _, _, _, _, _, h⟩ := h; exact h) (fun Z C hE => ?_)
  show Wm E Z 0 0 SH0 σ 0 [(0, .ref 149)] []
  unfold X9_law at h
  refine r_aload_n (pc' := 1) C dX9_law_0 rfl 0 rfl ?_
  refine r_iconst (pc' := 2) C dX9_law_1 rfl kc_0 ?_
  obtain ⟨σ1, e2, h⟩ := bs h
  refine r_putI (pc' := 5) (σ1 := σ1) C fpX9_3 sh_149 rfl rfl rfl dX9_law_2 rfl e2 ?_
  refine r_aload_n (pc' := 6) C dX9_law_5 rfl 0 rfl ?_
  obtain ⟨r3, e4, h⟩ := bd h
  refine r_cV1 (pc' := 9) C (X9_readsRule_ok  e4) mlX9_250 ceX9_readsRule cvX9_readsRule sh_149 rfl rfl rfl (Nat.le_of_ble_eq_true rfl) rfl (Nat.le_of_ble_eq_true rfl) dX9_law_6 rfl (kk := ?_)
  refine r_istore_n (pc' := 10) (lv2 := [(1, .int r3.1), (0, .ref 149)]) C dX9_law_9 rfl rfl (Nat.le_of_ble_eq_true rfl) rfl ?_
  refine r_iload_n (pc' := 11) C dX9_law_10 rfl 0 rfl ?_
  refine r_if_ge (tgt := 22) (pc' := 14) C dX9_law_11 rfl rfl (fun c5 => ?_) (fun c5 => ?_)
  · rw [if_pos c5] at h
    refine r_aload_n (pc' := 23) C dX9_law_22 rfl 1 rfl ?_
    refine r_aload_n (pc' := 24) C dX9_law_23 rfl 1 rfl ?_
    refine r_getR (pc' := 27) C flX9_34 sh_149 rfl dX9_law_24 rfl ?_
    obtain ⟨r6, e7, h⟩ := bd h
    refine r_cV1 (pc' := 30) C (X9_floating_ok mac_153 e7) mlX9_303 ceX9_floating cvX9_floating sh_149 rfl rfl rfl (Nat.le_of_ble_eq_true rfl) rfl (Nat.le_of_ble_eq_true rfl) dX9_law_27 rfl (kk := ?_)
    obtain ⟨r8, e9, h⟩ := bd h
    refine r_cS1 (pc' := 33) C (J6_bitCount_0f7a4_ok  e9) mlX9_135 ceJ6_bitCount_0f7a4 csJ6_bitCount_0f7a4 rfl (Nat.le_of_ble_eq_true rfl) rfl (Nat.le_of_ble_eq_true rfl) dX9_law_30 rfl (kk := ?_)
    refine r_istore_n (pc' := 34) (lv2 := [(2, .int r8), (1, .int r3.1), (0, .ref 149)]) C dX9_law_33 rfl rfl (Nat.le_of_ble_eq_true rfl) rfl ?_
    refine r_aload_n (pc' := 35) C dX9_law_34 rfl 2 rfl ?_
    refine r_getI (pc' := 38) C flX9_247 sh_149 rfl dX9_law_35 rfl ?_
    refine r_istore_n (pc' := 39) (lv2 := [(3, .int (gi r6.2 149 19)), (2, .int r8), (1, .int r3.1), (0, .ref 149)]) C dX9_law_38 rfl rfl (Nat.le_of_ble_eq_true rfl) rfl ?_
    refine r_iconst (pc' := 40) C dX9_law_39 rfl kc_0 ?_
    refine r_istore (pc' := 42) (lv2 := [(4, .int 0), (3, .int (gi r6.2 149 19)), (2, .int r8), (1, .int r3.1), (0, .ref 149)]) C dX9_law_40 rfl (Nat.le_of_ble_eq_true rfl) rfl ?_
    refine r_sub [4, 2, 1, 0] rfl ?_
    exact X9_law_l42_ok  (fun _ _ _ _ h Z C hE => by exact X9_law_j71_ok  h Z C hE) N _ _ _ _ _ h Z C hE
  · rw [if_neg c5] at h
    refine r_iload_n (pc' := 15) C dX9_law_14 rfl 0 rfl ?_
    refine r_iconst (pc' := 16) C dX9_law_15 rfl kc_1 ?_
    refine r_iadd (pc' := 17) C dX9_law_16 rfl ?_
    refine r_sipush (pc' := 20) C dX9_law_17 rfl ks_10000 ?_
    refine r_isub (pc' := 21) C dX9_law_20 rfl ?_
    have h := Option.some.inj h
    subst h
    exact r_ret C rfl dX9_law_21 hE

/-! BorrowedWeightModel.gets(III)I -/
def X9_gets (N : Nat)  (v0 : Int32) (v1 : Int32) (v2 : Int32) (σ : Sg) : Option (Int32) :=
  if v0 ≤ v1 then (if v0 = v1 then (some (v2 / 3)) else (some 0)) else (some (v2 - ((v0 + v1) / 2)))
set_option maxRecDepth 100000 in
set_option maxHeartbeats 4000000 in
theorem X9_gets_ok {E : Ev}  {N : Nat} {v0 : Int32} {v1 : Int32} {v2 : Int32} {σ : Sg} {r : Int32} (h : X9_gets N  v0 v1 v2 σ = some r) : Cm E (0) yX9_gets cX9_gets 3 (some .int) [.int v0, .int v1, .int v2] SH0 SH0 σ σ (some (.int r)) 0 0 := by
  refine Cm.intro (by decide +kernel) (Nat.le_of_ble_eq_true rfl) (fun _ h => by obtain ⟨_, _, _, _, _, _, h⟩ := h; exact h) (fun Z C hE => ?_)
  show Wm E Z 0 0 SH0 σ 0 [(0, .int v0), (1, .int v1), (2, .int v2)] []
  unfold X9_gets at h
  refine r_iload_n (pc' := 1) C dX9_gets_0 rfl 0 rfl ?_
  refine r_iload_n (pc' := 2) C dX9_gets_1 rfl 1 rfl ?_
  refine r_icmp_le (tgt := 15) (pc' := 5) C dX9_gets_2 rfl rfl (fun c1 => ?_) (fun c1 => ?_)
  · rw [if_pos c1] at h
    refine r_iload_n (pc' := 16) C dX9_gets_15 rfl 0 rfl ?_
    refine r_iload_n (pc' := 17) C dX9_gets_16 rfl 1 rfl ?_
    refine r_icmp_ne (tgt := 26) (pc' := 20) C dX9_gets_17 rfl rfl (fun c2 => ?_) (fun c2 => ?_)
    · rw [if_neg c2] at h
      refine r_iconst (pc' := 27) C dX9_gets_26 rfl kc_0 ?_
      have h := Option.some.inj h
      subst h
      exact r_ret C rfl dX9_gets_27 hE
    · rw [if_pos c2] at h
      refine r_iload_n (pc' := 21) C dX9_gets_20 rfl 2 rfl ?_
      refine r_iconst (pc' := 22) C dX9_gets_21 rfl kc_3 ?_
      refine r_idiv (pc' := 23) C dX9_gets_22 rfl (by decide) ?_
      refine r_goto (tgt := 27) C dX9_gets_23 rfl ?_
      have h := Option.some.inj h
      subst h
      exact r_ret C rfl dX9_gets_27 hE
  · rw [if_neg c1] at h
    refine r_iload_n (pc' := 6) C dX9_gets_5 rfl 2 rfl ?_
    refine r_iload_n (pc' := 7) C dX9_gets_6 rfl 0 rfl ?_
    refine r_iload_n (pc' := 8) C dX9_gets_7 rfl 1 rfl ?_
    refine r_iadd (pc' := 9) C dX9_gets_8 rfl ?_
    refine r_iconst (pc' := 10) C dX9_gets_9 rfl kc_2 ?_
    refine r_idiv (pc' := 11) C dX9_gets_10 rfl (by decide) ?_
    refine r_isub (pc' := 12) C dX9_gets_11 rfl ?_
    refine r_goto (tgt := 27) C dX9_gets_12 rfl ?_
    have h := Option.some.inj h
    subst h
    exact r_ret C rfl dX9_gets_27 hE

/-! BorrowedWeightModel.isRest(III)Z -/
def X9_isRest_l5 (N : Nat)   (σ : Sg) : Nat → Int32 → Int32 → Int32 → Int32 → Int32 → Option (Int32)
  | 0, _, _, _, _, _ => none
  | n + 1, v0, v1, v2, v3, v4 =>
    if 9 < v4 then (if isB v3 = true then some v3 else none) else (if v3 = 0 then (X9_isRest_l5 N σ n v0 v1 v2 0 (v4 + 1)) else ((X9_gets N v4 v1 v2 σ).bind fun r4 => ((X9_gets N v0 v1 v2 σ).bind fun r6 => (if r6 < r4 then (X9_isRest_l5 N σ n v0 v1 v2 0 (v4 + 1)) else (X9_isRest_l5 N σ n v0 v1 v2 1 (v4 + 1))))))
set_option maxRecDepth 100000 in
set_option maxHeartbeats 4000000 in
theorem X9_isRest_l5_ok {E : Ev}  {N : Nat}  {σ : Sg}  : ∀ (n : Nat) (v0 : Int32) (v1 : Int32) (v2 : Int32) (v3 : Int32) (v4 : Int32) (r : Int32), X9_isRest_l5 N σ n v0 v1 v2 v3 v4 = some r → Gp E RX9 cX9_isRest (some .boolean) 5 (1) SH0 σ (some (.int r)) σ 5 [(0, .int v0), (1, .int v1), (2, .int v2), (3, .int v3), (4, .int v4)] [] := by
  intro n
  induction n with
  | zero => intro v0 v1 v2 v3 v4 r h; cases h
  | succ n ih =>
    intro v0 v1 v2 v3 v4 r h Z C hE
    unfold X9_isRest_l5 at h
    refine r_iload (pc' := 7) C dX9_isRest_5 rfl 4 rfl ?_
    refine r_bipush (pc' := 9) C dX9_isRest_7 rfl kb_9 ?_
    refine r_icmp_gt (tgt := 44) (pc' := 12) C dX9_isRest_9 rfl rfl (fun c1 => ?_) (fun c1 => ?_)
    · rw [if_pos c1] at h
      refine r_iload_n (pc' := 45) C dX9_isRest_44 rfl 3 rfl ?_
      obtain ⟨q2, h⟩ := ck h
      have h := Option.some.inj h
      subst h
      exact r_ret C (nisB q2) dX9_isRest_45 hE
    · rw [if_neg c1] at h
      refine r_iload_n (pc' := 13) C dX9_isRest_12 rfl 3 rfl ?_
      refine r_if_eq (tgt := 36) (pc' := 16) C dX9_isRest_13 rfl rfl (fun c3 => ?_) (fun c3 => ?_)
      · rw [if_pos c3] at h
        refine r_iconst (pc' := 37) C dX9_isRest_36 rfl kc_0 ?_
        refine r_istore_n (pc' := 38) (lv2 := [(3, .int 0), (0, .int v0), (1, .int v1), (2, .int v2), (4, .int v4)]) C dX9_isRest_37 rfl rfl (Nat.le_of_ble_eq_true rfl) rfl ?_
        refine r_iinc (pc' := 41) (v := v4 + 1) (lv2 := [(4, .int (v4 + 1)), (3, .int 0), (0, .int v0), (1, .int v1), (2, .int v2)]) C dX9_isRest_38 rfl 4 rfl rfl (Nat.le_of_ble_eq_true rfl) rfl ?_
        refine r_goto (tgt := 5) C dX9_isRest_41 rfl ?_
        refine r_sub [2, 3, 4, 1, 0] rfl ?_
        exact ih _ _ _ _ _ _ h Z C hE
      · rw [if_neg c3] at h
        refine r_iload (pc' := 18) C dX9_isRest_16 rfl 4 rfl ?_
        refine r_iload_n (pc' := 19) C dX9_isRest_18 rfl 1 rfl ?_
        refine r_iload_n (pc' := 20) C dX9_isRest_19 rfl 2 rfl ?_
        obtain ⟨r4, e5, h⟩ := bd h
        refine r_cS1 (pc' := 23) C (X9_gets_ok  e5) mlX9_410 ceX9_gets csX9_gets rfl (Nat.le_of_ble_eq_true rfl) rfl (Nat.le_of_ble_eq_true rfl) dX9_isRest_20 rfl (kk := ?_)
        refine r_iload_n (pc' := 24) C dX9_isRest_23 rfl 0 rfl ?_
        refine r_iload_n (pc' := 25) C dX9_isRest_24 rfl 1 rfl ?_
        refine r_iload_n (pc' := 26) C dX9_isRest_25 rfl 2 rfl ?_
        obtain ⟨r6, e7, h⟩ := bd h
        refine r_cS1 (pc' := 29) C (X9_gets_ok  e7) mlX9_410 ceX9_gets csX9_gets rfl (Nat.le_of_ble_eq_true rfl) rfl (Nat.le_of_ble_eq_true rfl) dX9_isRest_26 rfl (kk := ?_)
        refine r_icmp_gt (tgt := 36) (pc' := 32) C dX9_isRest_29 rfl rfl (fun c8 => ?_) (fun c8 => ?_)
        · rw [if_pos c8] at h
          refine r_iconst (pc' := 37) C dX9_isRest_36 rfl kc_0 ?_
          refine r_istore_n (pc' := 38) (lv2 := [(3, .int 0), (0, .int v0), (1, .int v1), (2, .int v2), (4, .int v4)]) C dX9_isRest_37 rfl rfl (Nat.le_of_ble_eq_true rfl) rfl ?_
          refine r_iinc (pc' := 41) (v := v4 + 1) (lv2 := [(4, .int (v4 + 1)), (3, .int 0), (0, .int v0), (1, .int v1), (2, .int v2)]) C dX9_isRest_38 rfl 4 rfl rfl (Nat.le_of_ble_eq_true rfl) rfl ?_
          refine r_goto (tgt := 5) C dX9_isRest_41 rfl ?_
          refine r_sub [2, 3, 4, 1, 0] rfl ?_
          exact ih _ _ _ _ _ _ h Z C hE
        · rw [if_neg c8] at h
          refine r_iconst (pc' := 33) C dX9_isRest_32 rfl kc_1 ?_
          refine r_goto (tgt := 37) C dX9_isRest_33 rfl ?_
          refine r_istore_n (pc' := 38) (lv2 := [(3, .int 1), (0, .int v0), (1, .int v1), (2, .int v2), (4, .int v4)]) C dX9_isRest_37 rfl rfl (Nat.le_of_ble_eq_true rfl) rfl ?_
          refine r_iinc (pc' := 41) (v := v4 + 1) (lv2 := [(4, .int (v4 + 1)), (3, .int 1), (0, .int v0), (1, .int v1), (2, .int v2)]) C dX9_isRest_38 rfl 4 rfl rfl (Nat.le_of_ble_eq_true rfl) rfl ?_
          refine r_goto (tgt := 5) C dX9_isRest_41 rfl ?_
          refine r_sub [2, 3, 4, 1, 0] rfl ?_
          exact ih _ _ _ _ _ _ h Z C hE
def X9_isRest (N : Nat)  (v0 : Int32) (v1 : Int32) (v2 : Int32) (σ : Sg) : Option (Int32) :=
  X9_isRest_l5 N σ N v0 v1 v2 1 0
set_option maxRecDepth 100000 in
set_option maxHeartbeats 4000000 in
theorem X9_isRest_ok {E : Ev}  {N : Nat} {v0 : Int32} {v1 : Int32} {v2 : Int32} {σ : Sg} {r : Int32} (h : X9_isRest N  v0 v1 v2 σ = some r) : Cm E (1) yX9_isRest cX9_isRest 5 (some .boolean) [.int v0, .int v1, .int v2] SH0 SH0 σ σ (some (.int r)) 0 0 := by
  refine Cm.intro (by decide +kernel) (Nat.le_of_ble_eq_true rfl) (fun _ h => by obtain ⟨_, _, _, _, _, _, h⟩ := h; exact h) (fun Z C hE => ?_)
  show Wm E Z 0 0 SH0 σ 0 [(0, .int v0), (1, .int v1), (2, .int v2)] []
  unfold X9_isRest at h
  refine r_iconst (pc' := 1) C dX9_isRest_0 rfl kc_1 ?_
  refine r_istore_n (pc' := 2) (lv2 := [(3, .int 1), (0, .int v0), (1, .int v1), (2, .int v2)]) C dX9_isRest_1 rfl rfl (Nat.le_of_ble_eq_true rfl) rfl ?_
  refine r_iconst (pc' := 3) C dX9_isRest_2 rfl kc_0 ?_
  refine r_istore (pc' := 5) (lv2 := [(4, .int 0), (3, .int 1), (0, .int v0), (1, .int v1), (2, .int v2)]) C dX9_isRest_3 rfl (Nat.le_of_ble_eq_true rfl) rfl ?_
  refine r_sub [2, 3, 4, 1, 0] rfl ?_
  exact X9_isRest_l5_ok  N _ _ _ _ _ _ h Z C hE

/-! BorrowedWeightModel.rests(I)I -/
def X9_rests_l37 (N : Nat)  (k90 : Int32 → Int32 → Int32 → Sg → Option (Int32 × Sg))  : Nat → Int32 → Int32 → Int32 → Int32 → Sg → Option (Int32 × Sg)
  | 0, _, _, _, _, _ => none
  | n + 1, v1, v2, v3, v4, σ =>
    if 9 < v4 then (k90 v1 v2 v3 σ) else ((X9_isRest N v3 v4 v1 σ).bind fun r10 => (if r10 = 0 then (X9_rests_l37 N k90 n v1 v2 v3 (v4 + 1) σ) else ((X9_isRest N v4 v3 v1 σ).bind fun r13 => (if r13 = 0 then (X9_rests_l37 N k90 n v1 v2 v3 (v4 + 1) σ) else (if v2 = 0 then ((X9_enters N v3.toInt64 σ).bind fun r17 => ((X9_enters N v4.toInt64 r17).bind fun r19 => (X9_rests_l37 N k90 n v1 (v2 + 1) v3 (v4 + 1) r19))) else (X9_rests_l37 N k90 n v1 (v2 + 1) v3 (v4 + 1) σ))))))
set_option maxRecDepth 100000 in
set_option maxHeartbeats 4000000 in
theorem X9_rests_l37_ok {E : Ev}  {N : Nat} {k90 : Int32 → Int32 → Int32 → Sg → Option (Int32 × Sg)}  (hk90 : ∀ (v1 : Int32) (v2 : Int32) (v3 : Int32) (σ : Sg) (r : Int32 × Sg), k90 v1 v2 v3 σ = some r → Gp E RX9 cX9_rests (some .int) 5 (2) SH0 r.2 (some (.int r.1)) σ 90 [(0, .ref 149), (1, .int v1), (2, .int v2), (3, .int v3)] []) : ∀ (n : Nat) (v1 : Int32) (v2 : Int32) (v3 : Int32) (v4 : Int32) (σ : Sg) (r : Int32 × Sg), X9_rests_l37 N k90 n v1 v2 v3 v4 σ = some r → Gp E RX9 cX9_rests (some .int) 5 (2) SH0 r.2 (some (.int r.1)) σ 37 [(0, .ref 149), (1, .int v1), (2, .int v2), (3, .int v3), (4, .int v4)] [] := by
  intro n
  induction n with
  | zero => intro v1 v2 v3 v4 σ r h; cases h
  | succ n ih =>
    intro v1 v2 v3 v4 σ r h Z C hE
    unfold X9_rests_l37 at h
    refine r_iload (pc' := 39) C dX9_rests_37 rfl 4 rfl ?_
    refine r_bipush (pc' := 41) C dX9_rests_39 rfl kb_9 ?_
    refine r_icmp_gt (tgt := 90) (pc' := 44) C dX9_rests_41 rfl rfl (fun c9 => ?_) (fun c9 => ?_)
    · rw [if_pos c9] at h
      refine r_sub [0, 1, 2, 3] rfl ?_
      exact hk90 _ _ _ _ _ h Z C hE
    · rw [if_neg c9] at h
      refine r_iload_n (pc' := 45) C dX9_rests_44 rfl 3 rfl ?_
      refine r_iload (pc' := 47) C dX9_rests_45 rfl 4 rfl ?_
      refine r_iload_n (pc' := 48) C dX9_rests_47 rfl 1 rfl ?_
      obtain ⟨r10, e11, h⟩ := bd h
      refine r_cS1 (pc' := 51) C (X9_isRest_ok  e11) mlX9_413 ceX9_isRest csX9_isRest rfl (Nat.le_of_ble_eq_true rfl) rfl (Nat.le_of_ble_eq_true rfl) dX9_rests_48 rfl (kk := ?_)
      refine r_if_eq (tgt := 84) (pc' := 54) C dX9_rests_51 rfl rfl (fun c12 => ?_) (fun c12 => ?_)
      · rw [if_pos c12] at h
        refine r_iinc (pc' := 87) (v := v4 + 1) (lv2 := [(4, .int (v4 + 1)), (0, .ref 149), (1, .int v1), (2, .int v2), (3, .int v3)]) C dX9_rests_84 rfl 4 rfl rfl (Nat.le_of_ble_eq_true rfl) rfl ?_
        refine r_goto (tgt := 37) C dX9_rests_87 rfl ?_
        refine r_sub [1, 2, 3, 4, 0] rfl ?_
        exact ih _ _ _ _ _ _ h Z C hE
      · rw [if_neg c12] at h
        refine r_iload (pc' := 56) C dX9_rests_54 rfl 4 rfl ?_
        refine r_iload_n (pc' := 57) C dX9_rests_56 rfl 3 rfl ?_
        refine r_iload_n (pc' := 58) C dX9_rests_57 rfl 1 rfl ?_
        obtain ⟨r13, e14, h⟩ := bd h
        refine r_cS1 (pc' := 61) C (X9_isRest_ok  e14) mlX9_413 ceX9_isRest csX9_isRest rfl (Nat.le_of_ble_eq_true rfl) rfl (Nat.le_of_ble_eq_true rfl) dX9_rests_58 rfl (kk := ?_)
        refine r_if_eq (tgt := 84) (pc' := 64) C dX9_rests_61 rfl rfl (fun c15 => ?_) (fun c15 => ?_)
        · rw [if_pos c15] at h
          refine r_iinc (pc' := 87) (v := v4 + 1) (lv2 := [(4, .int (v4 + 1)), (0, .ref 149), (1, .int v1), (2, .int v2), (3, .int v3)]) C dX9_rests_84 rfl 4 rfl rfl (Nat.le_of_ble_eq_true rfl) rfl ?_
          refine r_goto (tgt := 37) C dX9_rests_87 rfl ?_
          refine r_sub [1, 2, 3, 4, 0] rfl ?_
          exact ih _ _ _ _ _ _ h Z C hE
        · rw [if_neg c15] at h
          refine r_iload_n (pc' := 65) C dX9_rests_64 rfl 2 rfl ?_
          refine r_if_ne (tgt := 81) (pc' := 68) C dX9_rests_65 rfl rfl (fun c16 => ?_) (fun c16 => ?_)
          · rw [if_neg c16] at h
            refine r_iinc (pc' := 84) (v := v2 + 1) (lv2 := [(2, .int (v2 + 1)), (0, .ref 149), (1, .int v1), (3, .int v3), (4, .int v4)]) C dX9_rests_81 rfl 2 rfl rfl (Nat.le_of_ble_eq_true rfl) rfl ?_
            refine r_iinc (pc' := 87) (v := v4 + 1) (lv2 := [(4, .int (v4 + 1)), (2, .int (v2 + 1)), (0, .ref 149), (1, .int v1), (3, .int v3)]) C dX9_rests_84 rfl 4 rfl rfl (Nat.le_of_ble_eq_true rfl) rfl ?_
            refine r_goto (tgt := 37) C dX9_rests_87 rfl ?_
            refine r_sub [2, 3, 1, 4, 0] rfl ?_
            exact ih _ _ _ _ _ _ h Z C hE
          · rw [if_pos c16] at h
            refine r_aload_n (pc' := 69) C dX9_rests_68 rfl 0 rfl ?_
            refine r_iload_n (pc' := 70) C dX9_rests_69 rfl 3 rfl ?_
            refine r_i2l (pc' := 71) C dX9_rests_70 rfl rfl ?_
            obtain ⟨r17, e18, h⟩ := bd h
            refine r_cV0 (pc' := 74) C (X9_enters_ok  e18) mlX9_327 ceX9_enters cvX9_enters sh_149 rfl rfl rfl (Nat.le_of_ble_eq_true rfl) rfl (Nat.le_of_ble_eq_true rfl) dX9_rests_71 rfl (kk := ?_)
            refine r_aload_n (pc' := 75) C dX9_rests_74 rfl 0 rfl ?_
            refine r_iload (pc' := 77) C dX9_rests_75 rfl 4 rfl ?_
            refine r_i2l (pc' := 78) C dX9_rests_77 rfl rfl ?_
            obtain ⟨r19, e20, h⟩ := bd h
            refine r_cV0 (pc' := 81) C (X9_enters_ok  e20) mlX9_327 ceX9_enters cvX9_enters sh_149 rfl rfl rfl (Nat.le_of_ble_eq_true rfl) rfl (Nat.le_of_ble_eq_true rfl) dX9_rests_78 rfl (kk := ?_)
            refine r_iinc (pc' := 84) (v := v2 + 1) (lv2 := [(2, .int (v2 + 1)), (0, .ref 149), (1, .int v1), (3, .int v3), (4, .int v4)]) C dX9_rests_81 rfl 2 rfl rfl (Nat.le_of_ble_eq_true rfl) rfl ?_
            refine r_iinc (pc' := 87) (v := v4 + 1) (lv2 := [(4, .int (v4 + 1)), (2, .int (v2 + 1)), (0, .ref 149), (1, .int v1), (3, .int v3)]) C dX9_rests_84 rfl 4 rfl rfl (Nat.le_of_ble_eq_true rfl) rfl ?_
            refine r_goto (tgt := 37) C dX9_rests_87 rfl ?_
            refine r_sub [2, 3, 1, 4, 0] rfl ?_
            exact ih _ _ _ _ _ _ h Z C hE
def X9_rests_j90 (N : Nat)  (kr : Int32 → Int32 → Int32 → Sg → Option (Int32 × Sg)) (v1 : Int32) (v2 : Int32) (v3 : Int32) (σ : Sg) : Option (Int32 × Sg) :=
  kr v1 v2 (v3 + 1) σ
set_option maxRecDepth 100000 in
set_option maxHeartbeats 4000000 in
theorem X9_rests_j90_ok {E : Ev}  {N : Nat} {kr : Int32 → Int32 → Int32 → Sg → Option (Int32 × Sg)}  (hkr : ∀ (v1 : Int32) (v2 : Int32) (v3 : Int32) (σ : Sg) (r : Int32 × Sg), kr v1 v2 v3 σ = some r → Gp E RX9 cX9_rests (some .int) 5 (2) SH0 r.2 (some (.int r.1)) σ 28 [(0, .ref 149), (1, .int v1), (2, .int v2), (3, .int v3)] []) {v1 : Int32} {v2 : Int32} {v3 : Int32} {σ : Sg} {r : Int32 × Sg} (h : X9_rests_j90 N  kr v1 v2 v3 σ = some r) : Gp E RX9 cX9_rests (some .int) 5 (2) SH0 r.2 (some (.int r.1)) σ 90 [(0, .ref 149), (1, .int v1), (2, .int v2), (3, .int v3)] [] := by
  intro Z C hE
  unfold X9_rests_j90 at h
  refine r_iinc (pc' := 93) (v := v3 + 1) (lv2 := [(3, .int (v3 + 1)), (0, .ref 149), (1, .int v1), (2, .int v2)]) C dX9_rests_90 rfl 3 rfl rfl (Nat.le_of_ble_eq_true rfl) rfl ?_
  refine r_goto (tgt := 28) C dX9_rests_93 rfl ?_
  refine r_sub [1, 2, 3, 0] rfl ?_
  exact hkr _ _ _ _ _ h Z C hE
def X9_rests_l28 (N : Nat)    : Nat → Int32 → Int32 → Int32 → Sg → Option (Int32 × Sg)
  | 0, _, _, _, _ => none
  | n + 1, v1, v2, v3, σ =>
    if 9 < v3 then (some (v2, σ)) else (X9_rests_l37 N (fun v1 v2 v3 σ => X9_rests_j90 N (fun v1 v2 v3 σ => X9_rests_l28 N n v1 v2 v3 σ) v1 v2 v3 σ) N v1 v2 v3 0 σ)
set_option maxRecDepth 100000 in
set_option maxHeartbeats 4000000 in
theorem X9_rests_l28_ok {E : Ev}  {N : Nat}    : ∀ (n : Nat) (v1 : Int32) (v2 : Int32) (v3 : Int32) (σ : Sg) (r : Int32 × Sg), X9_rests_l28 N n v1 v2 v3 σ = some r → Gp E RX9 cX9_rests (some .int) 5 (2) SH0 r.2 (some (.int r.1)) σ 28 [(0, .ref 149), (1, .int v1), (2, .int v2), (3, .int v3)] [] := by
  intro n
  induction n with
  | zero => intro v1 v2 v3 σ r h; cases h
  | succ n ih =>
    intro v1 v2 v3 σ r h Z C hE
    unfold X9_rests_l28 at h
    refine r_iload_n (pc' := 29) C dX9_rests_28 rfl 3 rfl ?_
    refine r_bipush (pc' := 31) C dX9_rests_29 rfl kb_9 ?_
    refine r_icmp_gt (tgt := 96) (pc' := 34) C dX9_rests_31 rfl rfl (fun c8 => ?_) (fun c8 => ?_)
    · rw [if_pos c8] at h
      refine r_iload_n (pc' := 97) C dX9_rests_96 rfl 2 rfl ?_
      have h := Option.some.inj h
      subst h
      exact r_ret C rfl dX9_rests_97 hE
    · rw [if_neg c8] at h
      refine r_iconst (pc' := 35) C dX9_rests_34 rfl kc_0 ?_
      refine r_istore (pc' := 37) (lv2 := [(4, .int 0), (0, .ref 149), (1, .int v1), (2, .int v2), (3, .int v3)]) C dX9_rests_35 rfl (Nat.le_of_ble_eq_true rfl) rfl ?_
      refine r_sub [1, 2, 3, 4, 0] rfl ?_
      exact X9_rests_l37_ok  (fun _ _ _ _ _ h Z C hE => by exact X9_rests_j90_ok  ih h Z C hE) N _ _ _ _ _ _ h Z C hE
def X9_rests (N : Nat)  (v1 : Int32) (σ : Sg) : Option (Int32 × Sg) :=
  bnS (wi σ 149 0 0) fun σ1 => (X9_in N v1.toInt64 0 20 σ1).bind fun r3 => (if r3 = 0 then (some ((-1), σ1)) else (bnS (wi σ1 149 1 0) fun σ6 => X9_rests_l28 N N v1 0 0 σ6))
set_option maxRecDepth 100000 in
set_option maxHeartbeats 4000000 in
theorem X9_rests_ok {E : Ev}  {N : Nat} {v1 : Int32} {σ : Sg} {r : Int32 × Sg} (h : X9_rests N  v1 σ = some r) : Cm E (2) yX9_rests cX9_rests 5 (some .int) [.ref 149, .int v1] SH0 SH0 σ r.2 (some (.int r.1)) 0 0 := by
  refine Cm.intro (by decide +kernel) (Nat.le_of_ble_eq_true rfl) (fun _ h => by obtain ⟨_, _, _, _, _, _, h⟩ := h; exact h) (fun Z C hE => ?_)
  show Wm E Z 0 0 SH0 σ 0 [(0, .ref 149), (1, .int v1)] []
  unfold X9_rests at h
  refine r_aload_n (pc' := 1) C dX9_rests_0 rfl 0 rfl ?_
  refine r_iconst (pc' := 2) C dX9_rests_1 rfl kc_0 ?_
  obtain ⟨σ1, e2, h⟩ := bs h
  refine r_putI (pc' := 5) (σ1 := σ1) C fpX9_3 sh_149 rfl rfl rfl dX9_rests_2 rfl e2 ?_
  refine r_iload_n (pc' := 6) C dX9_rests_5 rfl 1 rfl ?_
  refine r_i2l (pc' := 7) C dX9_rests_6 rfl rfl ?_
  refine r_lconst (pc' := 8) C dX9_rests_7 rfl kl_0 ?_
  refine r_ldc2 (pc' := 11) C cnX9_379 dX9_rests_8 rfl ?_
  obtain ⟨r3, e4, h⟩ := bd h
  refine r_cS1 (pc' := 14) C (X9_in_ok  e4) mlX9_119 ceX9_in csX9_in rfl (Nat.le_of_ble_eq_true rfl) rfl (Nat.le_of_ble_eq_true rfl) dX9_rests_11 rfl (kk := ?_)
  refine r_if_ne (tgt := 19) (pc' := 17) C dX9_rests_14 rfl rfl (fun c5 => ?_) (fun c5 => ?_)
  · rw [if_neg c5] at h
    refine r_iconst (pc' := 20) C dX9_rests_19 rfl kc_0 ?_
    refine r_istore_n (pc' := 21) (lv2 := [(2, .int 0), (0, .ref 149), (1, .int v1)]) C dX9_rests_20 rfl rfl (Nat.le_of_ble_eq_true rfl) rfl ?_
    refine r_aload_n (pc' := 22) C dX9_rests_21 rfl 1 rfl ?_
    refine r_iconst (pc' := 23) C dX9_rests_22 rfl kc_0 ?_
    obtain ⟨σ6, e7, h⟩ := bs h
    refine r_putI (pc' := 26) (σ1 := σ6) C fpX9_15 sh_149 rfl rfl rfl dX9_rests_23 rfl e7 ?_
    refine r_iconst (pc' := 27) C dX9_rests_26 rfl kc_0 ?_
    refine r_istore_n (pc' := 28) (lv2 := [(3, .int 0), (2, .int 0), (0, .ref 149), (1, .int v1)]) C dX9_rests_27 rfl rfl (Nat.le_of_ble_eq_true rfl) rfl ?_
    refine r_sub [2, 3, 1, 0] rfl ?_
    exact X9_rests_l28_ok  N _ _ _ _ _ h Z C hE
  · rw [if_pos c5] at h
    refine r_iconst (pc' := 18) C dX9_rests_17 rfl kc_m1 ?_
    have h := Option.some.inj h
    subst h
    exact r_ret C rfl dX9_rests_18 hE

/-! BorrowedWeightModel.draws(I)I -/
def X9_draws (N : Nat)  (v1 : Int32) (σ : Sg) : Option (Int32 × Sg) :=
  bnS (wi σ 149 44 (((gi σ 149 44) * 1103515245) + 12345)) fun σ1 => if v1 = 0 then none else some ((ushr (gi σ1 149 44) 16) - (ushr (gi σ1 149 44) 16) / v1 * v1, σ1)
set_option maxRecDepth 100000 in
set_option maxHeartbeats 4000000 in
theorem X9_draws_ok {E : Ev}  {N : Nat} {v1 : Int32} {σ : Sg} {r : Int32 × Sg} (h : X9_draws N  v1 σ = some r) : Cm E (0) yX9_draws cX9_draws 2 (some .int) [.ref 149, .int v1] SH0 SH0 σ r.2 (some (.int r.1)) 0 0 := by
  refine Cm.intro (by decide +kernel) (Nat.le_of_ble_eq_true rfl) (fun _ h => by obtain ⟨_, _, _, _, _, _, h⟩ := h; exact h) (fun Z C hE => ?_)
  show Wm E Z 0 0 SH0 σ 0 [(0, .ref 149), (1, .int v1)] []
  unfold X9_draws at h
  refine r_aload_n (pc' := 1) C dX9_draws_0 rfl 0 rfl ?_
  refine r_aload_n (pc' := 2) C dX9_draws_1 rfl 0 rfl ?_
  refine r_getI (pc' := 5) C flX9_417 sh_149 rfl dX9_draws_2 rfl ?_
  refine r_ldcw (pc' := 8) C cnX9_420 dX9_draws_5 rfl ?_
  refine r_imul (pc' := 9) C dX9_draws_8 rfl ?_
  refine r_sipush (pc' := 12) C dX9_draws_9 rfl ks_12345 ?_
  refine r_iadd (pc' := 13) C dX9_draws_12 rfl ?_
  obtain ⟨σ1, e2, h⟩ := bs h
  refine r_putI (pc' := 16) (σ1 := σ1) C fpX9_417 sh_149 rfl rfl rfl dX9_draws_13 rfl e2 ?_
  refine r_aload_n (pc' := 17) C dX9_draws_16 rfl 0 rfl ?_
  refine r_getI (pc' := 20) C flX9_417 sh_149 rfl dX9_draws_17 rfl ?_
  refine r_bipush (pc' := 22) C dX9_draws_20 rfl kb_16 ?_
  refine r_iushr (pc' := 23) (v := ushr (gi σ1 149 44) 16) C dX9_draws_22 rfl rfl ?_
  refine r_iload_n (pc' := 24) C dX9_draws_23 rfl 1 rfl ?_
  obtain ⟨q3, h⟩ := ck0 h
  refine r_irem (pc' := 25) C dX9_draws_24 rfl q3 ?_
  have h := Option.some.inj h
  subst h
  exact r_ret C rfl dX9_draws_25 hE

/-! BorrowedWeightModel.years(II)I -/
def X9_years_l39 (N : Nat)  (k137 : Sg → Option (Int32 × Sg))  : Nat → Int32 → Int32 → Sg → Option (Int32 × Sg)
  | 0, _, _, _ => none
  | n + 1, v2, v3, σ =>
    if v2 ≤ v3 then (k137 σ) else ((X9_draws N 4 σ).bind fun r13 => (if 2 ≤ r13.1 then (if (gi r13.2 149 3) ≤ 0 then (X9_years_l39 N k137 n v2 (v3 + 1) r13.2) else ((X9_draws N (gi r13.2 149 3) r13.2).bind fun r17 => (if r13.1 = 2 then ((X9_draws N 3 r17.2).bind fun r24 => ((X9_lendsTo N 154 r17.1 (1 + r24.1) r24.2).bind fun r26 => (X9_years_l39 N k137 n v2 (v3 + 1) r26.2))) else ((X9_draws N (gi r17.2 149 3) r17.2).bind fun r20 => ((X9_tiesTwo N 154 r17.1 r20.1 r20.2).bind fun r22 => (X9_years_l39 N k137 n v2 (v3 + 1) r22.2)))))) else ((X9_hourGoes N 154 r13.2).bind fun r28 => (X9_years_l39 N k137 n v2 (v3 + 1) r28))))
set_option maxRecDepth 100000 in
set_option maxHeartbeats 4000000 in
theorem X9_years_l39_ok {E : Ev}  {N : Nat} {k137 : Sg → Option (Int32 × Sg)}  (hk137 : ∀ (σ : Sg) (r : Int32 × Sg), k137 σ = some r → Gp E RX9 cX9_years (some .int) 6 (9) SH0 r.2 (some (.int r.1)) σ 137 [(0, .ref 149)] []) : ∀ (n : Nat) (v2 : Int32) (v3 : Int32) (σ : Sg) (r : Int32 × Sg), X9_years_l39 N k137 n v2 v3 σ = some r → Gp E RX9 cX9_years (some .int) 6 (9) SH0 r.2 (some (.int r.1)) σ 39 [(0, .ref 149), (2, .int v2), (3, .int v3)] [] := by
  intro n
  induction n with
  | zero => intro v2 v3 σ r h; cases h
  | succ n ih =>
    intro v2 v3 σ r h Z C hE
    unfold X9_years_l39 at h
    refine r_iload_n (pc' := 40) C dX9_years_39 rfl 2 rfl ?_
    refine r_iload_n (pc' := 41) C dX9_years_40 rfl 1 rfl ?_
    refine r_icmp_ge (tgt := 137) (pc' := 44) C dX9_years_41 rfl rfl (fun c12 => ?_) (fun c12 => ?_)
    · rw [if_pos c12] at h
      refine r_sub [0] rfl ?_
      exact hk137 _ _ h Z C hE
    · rw [if_neg c12] at h
      refine r_aload_n (pc' := 45) C dX9_years_44 rfl 0 rfl ?_
      refine r_iconst (pc' := 46) C dX9_years_45 rfl kc_4 ?_
      obtain ⟨r13, e14, h⟩ := bd h
      refine r_cV1 (pc' := 49) C (X9_draws_ok  e14) mlX9_421 ceX9_draws cvX9_draws sh_149 rfl rfl rfl (Nat.le_of_ble_eq_true rfl) rfl (Nat.le_of_ble_eq_true rfl) dX9_years_46 rfl (kk := ?_)
      refine r_istore (pc' := 51) (lv2 := [(4, .int r13.1), (0, .ref 149), (2, .int v2), (3, .int v3)]) C dX9_years_49 rfl (Nat.le_of_ble_eq_true rfl) rfl ?_
      refine r_iload (pc' := 53) C dX9_years_51 rfl 0 rfl ?_
      refine r_iconst (pc' := 54) C dX9_years_53 rfl kc_2 ?_
      refine r_icmp_ge (tgt := 68) (pc' := 57) C dX9_years_54 rfl rfl (fun c15 => ?_) (fun c15 => ?_)
      · rw [if_pos c15] at h
        refine r_aload_n (pc' := 69) C dX9_years_68 rfl 1 rfl ?_
        refine r_getI (pc' := 72) C flX9_116 sh_149 rfl dX9_years_69 rfl ?_
        refine r_if_le (tgt := 131) (pc' := 75) C dX9_years_72 rfl rfl (fun c16 => ?_) (fun c16 => ?_)
        · rw [if_pos c16] at h
          refine r_iinc (pc' := 134) (v := v3 + 1) (lv2 := [(3, .int (v3 + 1)), (4, .int r13.1), (0, .ref 149), (2, .int v2)]) C dX9_years_131 rfl 3 rfl rfl (Nat.le_of_ble_eq_true rfl) rfl ?_
          refine r_goto (tgt := 39) C dX9_years_134 rfl ?_
          refine r_sub [2, 3, 0] rfl ?_
          exact ih _ _ _ _ h Z C hE
        · rw [if_neg c16] at h
          refine r_aload_n (pc' := 76) C dX9_years_75 rfl 1 rfl ?_
          refine r_aload_n (pc' := 77) C dX9_years_76 rfl 1 rfl ?_
          refine r_getI (pc' := 80) C flX9_116 sh_149 rfl dX9_years_77 rfl ?_
          obtain ⟨r17, e18, h⟩ := bd h
          refine r_cV1 (pc' := 83) C (X9_draws_ok  e18) mlX9_421 ceX9_draws cvX9_draws sh_149 rfl rfl rfl (Nat.le_of_ble_eq_true rfl) rfl (Nat.le_of_ble_eq_true rfl) dX9_years_80 rfl (kk := ?_)
          refine r_istore (pc' := 85) (lv2 := [(5, .int r17.1), (4, .int r13.1), (0, .ref 149), (2, .int v2), (3, .int v3)]) C dX9_years_83 rfl (Nat.le_of_ble_eq_true rfl) rfl ?_
          refine r_iload (pc' := 87) C dX9_years_85 rfl 1 rfl ?_
          refine r_iconst (pc' := 88) C dX9_years_87 rfl kc_2 ?_
          refine r_icmp_ne (tgt := 112) (pc' := 91) C dX9_years_88 rfl rfl (fun c19 => ?_) (fun c19 => ?_)
          · rw [if_neg c19] at h
            refine r_aload_n (pc' := 113) C dX9_years_112 rfl 2 rfl ?_
            refine r_aload_n (pc' := 114) C dX9_years_113 rfl 2 rfl ?_
            refine r_getR (pc' := 117) C flX9_37 sh_149 rfl dX9_years_114 rfl ?_
            refine r_iload (pc' := 119) C dX9_years_117 rfl 0 rfl ?_
            refine r_aload_n (pc' := 120) C dX9_years_119 rfl 2 rfl ?_
            refine r_aload_n (pc' := 121) C dX9_years_120 rfl 2 rfl ?_
            refine r_getI (pc' := 124) C flX9_116 sh_149 rfl dX9_years_121 rfl ?_
            obtain ⟨r20, e21, h⟩ := bd h
            refine r_cV1 (pc' := 127) C (X9_draws_ok  e21) mlX9_421 ceX9_draws cvX9_draws sh_149 rfl rfl rfl (Nat.le_of_ble_eq_true rfl) rfl (Nat.le_of_ble_eq_true rfl) dX9_years_124 rfl (kk := ?_)
            obtain ⟨r22, e23, h⟩ := bd h
            refine r_cV1 (pc' := 130) C (X9_tiesTwo_ok mac_154 e23) mlX9_340 ceX9_tiesTwo cvX9_tiesTwo sh_149 rfl rfl rfl (Nat.le_of_ble_eq_true rfl) rfl (Nat.le_of_ble_eq_true rfl) dX9_years_127 rfl (kk := ?_)
            refine r_pop (pc' := 131) C dX9_years_130 rfl rfl ?_
            refine r_iinc (pc' := 134) (v := v3 + 1) (lv2 := [(3, .int (v3 + 1)), (5, .int r17.1), (4, .int r13.1), (0, .ref 149), (2, .int v2)]) C dX9_years_131 rfl 4 rfl rfl (Nat.le_of_ble_eq_true rfl) rfl ?_
            refine r_goto (tgt := 39) C dX9_years_134 rfl ?_
            refine r_sub [3, 4, 0] rfl ?_
            exact ih _ _ _ _ h Z C hE
          · rw [if_pos c19] at h
            refine r_aload_n (pc' := 92) C dX9_years_91 rfl 2 rfl ?_
            refine r_aload_n (pc' := 93) C dX9_years_92 rfl 2 rfl ?_
            refine r_getR (pc' := 96) C flX9_37 sh_149 rfl dX9_years_93 rfl ?_
            refine r_iload (pc' := 98) C dX9_years_96 rfl 0 rfl ?_
            refine r_iconst (pc' := 99) C dX9_years_98 rfl kc_1 ?_
            refine r_aload_n (pc' := 100) C dX9_years_99 rfl 2 rfl ?_
            refine r_iconst (pc' := 101) C dX9_years_100 rfl kc_3 ?_
            obtain ⟨r24, e25, h⟩ := bd h
            refine r_cV1 (pc' := 104) C (X9_draws_ok  e25) mlX9_421 ceX9_draws cvX9_draws sh_149 rfl rfl rfl (Nat.le_of_ble_eq_true rfl) rfl (Nat.le_of_ble_eq_true rfl) dX9_years_101 rfl (kk := ?_)
            refine r_iadd (pc' := 105) C dX9_years_104 rfl ?_
            obtain ⟨r26, e27, h⟩ := bd h
            refine r_cV1 (pc' := 108) C (X9_lendsTo_ok mac_154 e27) mlX9_331 ceX9_lendsTo cvX9_lendsTo sh_149 rfl rfl rfl (Nat.le_of_ble_eq_true rfl) rfl (Nat.le_of_ble_eq_true rfl) dX9_years_105 rfl (kk := ?_)
            refine r_pop (pc' := 109) C dX9_years_108 rfl rfl ?_
            refine r_goto (tgt := 131) C dX9_years_109 rfl ?_
            refine r_iinc (pc' := 134) (v := v3 + 1) (lv2 := [(3, .int (v3 + 1)), (5, .int r17.1), (4, .int r13.1), (0, .ref 149), (2, .int v2)]) C dX9_years_131 rfl 4 rfl rfl (Nat.le_of_ble_eq_true rfl) rfl ?_
            refine r_goto (tgt := 39) C dX9_years_134 rfl ?_
            refine r_sub [3, 4, 0] rfl ?_
            exact ih _ _ _ _ h Z C hE
      · rw [if_neg c15] at h
        refine r_aload_n (pc' := 58) C dX9_years_57 rfl 1 rfl ?_
        refine r_aload_n (pc' := 59) C dX9_years_58 rfl 1 rfl ?_
        refine r_getR (pc' := 62) C flX9_37 sh_149 rfl dX9_years_59 rfl ?_
        obtain ⟨r28, e29, h⟩ := bd h
        refine r_cV0 (pc' := 65) C (X9_hourGoes_ok mac_154 e29) mlX9_313 ceX9_hourGoes cvX9_hourGoes sh_149 rfl rfl rfl (Nat.le_of_ble_eq_true rfl) rfl (Nat.le_of_ble_eq_true rfl) dX9_years_62 rfl (kk := ?_)
        refine r_goto (tgt := 131) C dX9_years_65 rfl ?_
        refine r_iinc (pc' := 134) (v := v3 + 1) (lv2 := [(3, .int (v3 + 1)), (4, .int r13.1), (0, .ref 149), (2, .int v2)]) C dX9_years_131 rfl 3 rfl rfl (Nat.le_of_ble_eq_true rfl) rfl ?_
        refine r_goto (tgt := 39) C dX9_years_134 rfl ?_
        refine r_sub [2, 3, 0] rfl ?_
        exact ih _ _ _ _ h Z C hE
def X9_years_j137 (N : Nat)    (σ : Sg) : Option (Int32 × Sg) :=
  bnS (wi σ 149 1 0) fun σ30 => if inb 33 37 = true then (X9_enters N ((gi σ30 154 (33 : Int32).toNatClampNeg).toInt64) σ30).bind fun r33 => ((X9_enters N ((gi r33 149 26).toInt64) r33).bind fun r35 => ((X9_here N 154 r35).bind fun r37 => (some (r37, r35)))) else none
set_option maxRecDepth 100000 in
set_option maxHeartbeats 4000000 in
theorem X9_years_j137_ok {E : Ev}  {N : Nat}     {σ : Sg} {r : Int32 × Sg} (h : X9_years_j137 N    σ = some r) : Gp E RX9 cX9_years (some .int) 6 (9) SH0 r.2 (some (.int r.1)) σ 137 [(0, .ref 149)] [] := by
  intro Z C hE
  unfold X9_years_j137 at h
  refine r_aload_n (pc' := 138) C dX9_years_137 rfl 0 rfl ?_
  refine r_iconst (pc' := 139) C dX9_years_138 rfl kc_0 ?_
  obtain ⟨σ30, e31, h⟩ := bs h
  refine r_putI (pc' := 142) (σ1 := σ30) C fpX9_15 sh_149 rfl rfl rfl dX9_years_139 rfl e31 ?_
  refine r_aload_n (pc' := 143) C dX9_years_142 rfl 0 rfl ?_
  refine r_aload_n (pc' := 144) C dX9_years_143 rfl 0 rfl ?_
  refine r_getR (pc' := 147) C flX9_37 sh_149 rfl dX9_years_144 rfl ?_
  refine r_bipush (pc' := 149) C dX9_years_147 rfl kb_33 ?_
  obtain ⟨q32, h⟩ := ck h
  refine r_iald (pc' := 150) C sh_154 (vin q32) dX9_years_149 rfl ?_
  refine r_i2l (pc' := 151) C dX9_years_150 rfl rfl ?_
  obtain ⟨r33, e34, h⟩ := bd h
  refine r_cV0 (pc' := 154) C (X9_enters_ok  e34) mlX9_327 ceX9_enters cvX9_enters sh_149 rfl rfl rfl (Nat.le_of_ble_eq_true rfl) rfl (Nat.le_of_ble_eq_true rfl) dX9_years_151 rfl (kk := ?_)
  refine r_aload_n (pc' := 155) C dX9_years_154 rfl 0 rfl ?_
  refine r_aload_n (pc' := 156) C dX9_years_155 rfl 0 rfl ?_
  refine r_getI (pc' := 159) C flX9_300 sh_149 rfl dX9_years_156 rfl ?_
  refine r_i2l (pc' := 160) C dX9_years_159 rfl rfl ?_
  obtain ⟨r35, e36, h⟩ := bd h
  refine r_cV0 (pc' := 163) C (X9_enters_ok  e36) mlX9_327 ceX9_enters cvX9_enters sh_149 rfl rfl rfl (Nat.le_of_ble_eq_true rfl) rfl (Nat.le_of_ble_eq_true rfl) dX9_years_160 rfl (kk := ?_)
  refine r_aload_n (pc' := 164) C dX9_years_163 rfl 0 rfl ?_
  refine r_aload_n (pc' := 165) C dX9_years_164 rfl 0 rfl ?_
  refine r_getR (pc' := 168) C flX9_37 sh_149 rfl dX9_years_165 rfl ?_
  obtain ⟨r37, e38, h⟩ := bd h
  refine r_cV1 (pc' := 171) C (X9_here_ok mac_154 e38) mlX9_307 ceX9_here cvX9_here sh_149 rfl rfl rfl (Nat.le_of_ble_eq_true rfl) rfl (Nat.le_of_ble_eq_true rfl) dX9_years_168 rfl (kk := ?_)
  have h := Option.some.inj h
  subst h
  exact r_ret C rfl dX9_years_171 hE
def X9_years (N : Nat)  (v1 : Int32) (v2 : Int32) (σ : Sg) : Option (Int32 × Sg) :=
  bnS (wi σ 149 0 0) fun σ1 => (X9_in N v2.toInt64 1 60 σ1).bind fun r3 => (if r3 = 0 then (some ((-1), σ1)) else (bnS (wi σ1 149 44 v1) fun σ6 => (X9_copies N σ6).bind fun r8 => ((X9_goesOn N 154 0 r8).bind fun r10 => (X9_years_l39 N (fun σ => X9_years_j137 N σ) N v2 0 r10))))
set_option maxRecDepth 100000 in
set_option maxHeartbeats 4000000 in
theorem X9_years_ok {E : Ev}  {N : Nat} {v1 : Int32} {v2 : Int32} {σ : Sg} {r : Int32 × Sg} (h : X9_years N  v1 v2 σ = some r) : Cm E (9) yX9_years cX9_years 6 (some .int) [.ref 149, .int v1, .int v2] SH0 SH0 σ r.2 (some (.int r.1)) 0 0 := by
  refine Cm.intro (by decide +kernel) (Nat.le_of_ble_eq_true rfl) (fun _ h => by obtain ⟨_, _, _, _, _, _, h⟩ := h; exact h) (fun Z C hE => ?_)
  show Wm E Z 0 0 SH0 σ 0 [(0, .ref 149), (1, .int v1), (2, .int v2)] []
  unfold X9_years at h
  refine r_aload_n (pc' := 1) C dX9_years_0 rfl 0 rfl ?_
  refine r_iconst (pc' := 2) C dX9_years_1 rfl kc_0 ?_
  obtain ⟨σ1, e2, h⟩ := bs h
  refine r_putI (pc' := 5) (σ1 := σ1) C fpX9_3 sh_149 rfl rfl rfl dX9_years_2 rfl e2 ?_
  refine r_iload_n (pc' := 6) C dX9_years_5 rfl 2 rfl ?_
  refine r_i2l (pc' := 7) C dX9_years_6 rfl rfl ?_
  refine r_lconst (pc' := 8) C dX9_years_7 rfl kl_1 ?_
  refine r_ldc2 (pc' := 11) C cnX9_322 dX9_years_8 rfl ?_
  obtain ⟨r3, e4, h⟩ := bd h
  refine r_cS1 (pc' := 14) C (X9_in_ok  e4) mlX9_119 ceX9_in csX9_in rfl (Nat.le_of_ble_eq_true rfl) rfl (Nat.le_of_ble_eq_true rfl) dX9_years_11 rfl (kk := ?_)
  refine r_if_ne (tgt := 19) (pc' := 17) C dX9_years_14 rfl rfl (fun c5 => ?_) (fun c5 => ?_)
  · rw [if_neg c5] at h
    refine r_aload_n (pc' := 20) C dX9_years_19 rfl 0 rfl ?_
    refine r_iload_n (pc' := 21) C dX9_years_20 rfl 1 rfl ?_
    obtain ⟨σ6, e7, h⟩ := bs h
    refine r_putI (pc' := 24) (σ1 := σ6) C fpX9_417 sh_149 rfl rfl rfl dX9_years_21 rfl e7 ?_
    refine r_aload_n (pc' := 25) C dX9_years_24 rfl 0 rfl ?_
    obtain ⟨r8, e9, h⟩ := bd h
    refine r_cV0 (pc' := 28) C (X9_copies_ok  e9) mlX9_362 ceX9_copies cvX9_copies sh_149 rfl rfl rfl (Nat.le_of_ble_eq_true rfl) rfl (Nat.le_of_ble_eq_true rfl) dX9_years_25 rfl (kk := ?_)
    refine r_aload_n (pc' := 29) C dX9_years_28 rfl 0 rfl ?_
    refine r_aload_n (pc' := 30) C dX9_years_29 rfl 0 rfl ?_
    refine r_getR (pc' := 33) C flX9_37 sh_149 rfl dX9_years_30 rfl ?_
    refine r_iconst (pc' := 34) C dX9_years_33 rfl kc_0 ?_
    obtain ⟨r10, e11, h⟩ := bd h
    refine r_cV0 (pc' := 37) C (X9_goesOn_ok mac_154 e11) mlX9_324 ceX9_goesOn cvX9_goesOn sh_149 rfl rfl rfl (Nat.le_of_ble_eq_true rfl) rfl (Nat.le_of_ble_eq_true rfl) dX9_years_34 rfl (kk := ?_)
    refine r_iconst (pc' := 38) C dX9_years_37 rfl kc_0 ?_
    refine r_istore_n (pc' := 39) (lv2 := [(3, .int 0), (0, .ref 149), (1, .int v1), (2, .int v2)]) C dX9_years_38 rfl rfl (Nat.le_of_ble_eq_true rfl) rfl ?_
    refine r_sub [1, 3, 0] rfl ?_
    exact X9_years_l39_ok  (fun _ _ h Z C hE => by exact X9_years_j137_ok  h Z C hE) N _ _ _ _ h Z C hE
  · rw [if_pos c5] at h
    refine r_iconst (pc' := 18) C dX9_years_17 rfl kc_m1 ?_
    have h := Option.some.inj h
    subst h
    exact r_ret C rfl dX9_years_18 hE

/-! BorrowedWeightModel.keep(I)Z -/
def X9_keep_l38 (N : Nat)    : Nat → Int32 → Int32 → Sg → Option (Int32 × Sg)
  | 0, _, _, _ => none
  | n + 1, v1, v2, σ =>
    if 37 ≤ v2 then (some (1, σ)) else (if inb v2 37 = true then if inb ((37 * v1) + v2) 111 = true then bnS (wi σ 179 ((37 * v1) + v2).toNatClampNeg (gi σ 153 v2.toNatClampNeg)) fun σ15 => X9_keep_l38 N n v1 (v2 + 1) σ15 else none else none)
set_option maxRecDepth 100000 in
set_option maxHeartbeats 4000000 in
theorem X9_keep_l38_ok {E : Ev}  {N : Nat}    : ∀ (n : Nat) (v1 : Int32) (v2 : Int32) (σ : Sg) (r : Int32 × Sg), X9_keep_l38 N n v1 v2 σ = some r → Gp E RX9 cX9_keep (some .boolean) 3 (1) SH0 r.2 (some (.int r.1)) σ 38 [(0, .ref 149), (1, .int v1), (2, .int v2)] [] := by
  intro n
  induction n with
  | zero => intro v1 v2 σ r h; cases h
  | succ n ih =>
    intro v1 v2 σ r h Z C hE
    unfold X9_keep_l38 at h
    refine r_iload_n (pc' := 39) C dX9_keep_38 rfl 2 rfl ?_
    refine r_bipush (pc' := 41) C dX9_keep_39 rfl kb_37 ?_
    refine r_icmp_ge (tgt := 67) (pc' := 44) C dX9_keep_41 rfl rfl (fun c12 => ?_) (fun c12 => ?_)
    · rw [if_pos c12] at h
      refine r_iconst (pc' := 68) C dX9_keep_67 rfl kc_1 ?_
      have h := Option.some.inj h
      subst h
      exact r_ret C rfl dX9_keep_68 hE
    · rw [if_neg c12] at h
      refine r_aload_n (pc' := 45) C dX9_keep_44 rfl 0 rfl ?_
      refine r_getR (pc' := 48) C flX9_113 sh_149 rfl dX9_keep_45 rfl ?_
      refine r_bipush (pc' := 50) C dX9_keep_48 rfl kb_37 ?_
      refine r_iload_n (pc' := 51) C dX9_keep_50 rfl 1 rfl ?_
      refine r_imul (pc' := 52) C dX9_keep_51 rfl ?_
      refine r_iload_n (pc' := 53) C dX9_keep_52 rfl 2 rfl ?_
      refine r_iadd (pc' := 54) C dX9_keep_53 rfl ?_
      refine r_aload_n (pc' := 55) C dX9_keep_54 rfl 0 rfl ?_
      refine r_getR (pc' := 58) C flX9_34 sh_149 rfl dX9_keep_55 rfl ?_
      refine r_iload_n (pc' := 59) C dX9_keep_58 rfl 2 rfl ?_
      obtain ⟨q13, h⟩ := ck h
      refine r_iald (pc' := 60) C sh_153 (vin q13) dX9_keep_59 rfl ?_
      obtain ⟨q14, h⟩ := ck h
      obtain ⟨σ15, e16, h⟩ := bs h
      refine r_iast (pc' := 61) (σ1 := σ15) C sh_179 (vin q14) dX9_keep_60 rfl e16 ?_
      refine r_iinc (pc' := 64) (v := v2 + 1) (lv2 := [(2, .int (v2 + 1)), (0, .ref 149), (1, .int v1)]) C dX9_keep_61 rfl 2 rfl rfl (Nat.le_of_ble_eq_true rfl) rfl ?_
      refine r_goto (tgt := 38) C dX9_keep_64 rfl ?_
      refine r_sub [1, 2, 0] rfl ?_
      exact ih _ _ _ _ h Z C hE
def X9_keep (N : Nat)  (v1 : Int32) (σ : Sg) : Option (Int32 × Sg) :=
  bnS (wi σ 149 0 0) fun σ1 => (X9_in N v1.toInt64 0 2 σ1).bind fun r3 => (if r3 = 0 then (some (0, σ1)) else (if inb v1 3 = true then bnS (wi σ1 177 v1.toNatClampNeg (vp_nar .boolean 1)) fun σ7 => if inb v1 3 = true then bnS (wi σ7 178 v1.toNatClampNeg (gi σ7 149 4)) fun σ10 => X9_keep_l38 N N v1 0 σ10 else none else none))
set_option maxRecDepth 100000 in
set_option maxHeartbeats 4000000 in
theorem X9_keep_ok {E : Ev}  {N : Nat} {v1 : Int32} {σ : Sg} {r : Int32 × Sg} (h : X9_keep N  v1 σ = some r) : Cm E (1) yX9_keep cX9_keep 3 (some .boolean) [.ref 149, .int v1] SH0 SH0 σ r.2 (some (.int r.1)) 0 0 := by
  refine Cm.intro (by decide +kernel) (Nat.le_of_ble_eq_true rfl) (fun _ h => by obtain ⟨_, _, _, _, _, _, h⟩ := h; exact h) (fun Z C hE => ?_)
  show Wm E Z 0 0 SH0 σ 0 [(0, .ref 149), (1, .int v1)] []
  unfold X9_keep at h
  refine r_aload_n (pc' := 1) C dX9_keep_0 rfl 0 rfl ?_
  refine r_iconst (pc' := 2) C dX9_keep_1 rfl kc_0 ?_
  obtain ⟨σ1, e2, h⟩ := bs h
  refine r_putI (pc' := 5) (σ1 := σ1) C fpX9_3 sh_149 rfl rfl rfl dX9_keep_2 rfl e2 ?_
  refine r_iload_n (pc' := 6) C dX9_keep_5 rfl 1 rfl ?_
  refine r_i2l (pc' := 7) C dX9_keep_6 rfl rfl ?_
  refine r_lconst (pc' := 8) C dX9_keep_7 rfl kl_0 ?_
  refine r_ldc2 (pc' := 11) C cnX9_424 dX9_keep_8 rfl ?_
  obtain ⟨r3, e4, h⟩ := bd h
  refine r_cS1 (pc' := 14) C (X9_in_ok  e4) mlX9_119 ceX9_in csX9_in rfl (Nat.le_of_ble_eq_true rfl) rfl (Nat.le_of_ble_eq_true rfl) dX9_keep_11 rfl (kk := ?_)
  refine r_if_ne (tgt := 19) (pc' := 17) C dX9_keep_14 rfl rfl (fun c5 => ?_) (fun c5 => ?_)
  · rw [if_neg c5] at h
    refine r_aload_n (pc' := 20) C dX9_keep_19 rfl 0 rfl ?_
    refine r_getR (pc' := 23) C flX9_107 sh_149 rfl dX9_keep_20 rfl ?_
    refine r_iload_n (pc' := 24) C dX9_keep_23 rfl 1 rfl ?_
    refine r_iconst (pc' := 25) C dX9_keep_24 rfl kc_1 ?_
    obtain ⟨q6, h⟩ := ck h
    obtain ⟨σ7, e8, h⟩ := bs h
    refine r_zast (pc' := 26) (σ1 := σ7) C sh_177 (vin q6) dX9_keep_25 rfl e8 ?_
    refine r_aload_n (pc' := 27) C dX9_keep_26 rfl 0 rfl ?_
    refine r_getR (pc' := 30) C flX9_110 sh_149 rfl dX9_keep_27 rfl ?_
    refine r_iload_n (pc' := 31) C dX9_keep_30 rfl 1 rfl ?_
    refine r_aload_n (pc' := 32) C dX9_keep_31 rfl 0 rfl ?_
    refine r_getI (pc' := 35) C flX9_199 sh_149 rfl dX9_keep_32 rfl ?_
    obtain ⟨q9, h⟩ := ck h
    obtain ⟨σ10, e11, h⟩ := bs h
    refine r_iast (pc' := 36) (σ1 := σ10) C sh_178 (vin q9) dX9_keep_35 rfl e11 ?_
    refine r_iconst (pc' := 37) C dX9_keep_36 rfl kc_0 ?_
    refine r_istore_n (pc' := 38) (lv2 := [(2, .int 0), (0, .ref 149), (1, .int v1)]) C dX9_keep_37 rfl rfl (Nat.le_of_ble_eq_true rfl) rfl ?_
    refine r_sub [1, 2, 0] rfl ?_
    exact X9_keep_l38_ok  N _ _ _ _ h Z C hE
  · rw [if_pos c5] at h
    refine r_iconst (pc' := 18) C dX9_keep_17 rfl kc_0 ?_
    have h := Option.some.inj h
    subst h
    exact r_ret C rfl dX9_keep_18 hE

/-! BorrowedWeightModel.again(I)Z -/
def X9_again_l43 (N : Nat)    : Nat → Int32 → Int32 → Sg → Option (Int32 × Sg)
  | 0, _, _, _ => none
  | n + 1, v1, v2, σ =>
    if 37 ≤ v2 then (bnS (wi σ 149 23 0) fun σ11 => some (1, σ11)) else (if inb ((37 * v1) + v2) 111 = true then if inb v2 37 = true then bnS (wi σ 153 v2.toNatClampNeg (gi σ 179 ((37 * v1) + v2).toNatClampNeg)) fun σ15 => X9_again_l43 N n v1 (v2 + 1) σ15 else none else none)
set_option maxRecDepth 100000 in
set_option maxHeartbeats 4000000 in
theorem X9_again_l43_ok {E : Ev}  {N : Nat}    : ∀ (n : Nat) (v1 : Int32) (v2 : Int32) (σ : Sg) (r : Int32 × Sg), X9_again_l43 N n v1 v2 σ = some r → Gp E RX9 cX9_again (some .boolean) 3 (1) SH0 r.2 (some (.int r.1)) σ 43 [(0, .ref 149), (1, .int v1), (2, .int v2)] [] := by
  intro n
  induction n with
  | zero => intro v1 v2 σ r h; cases h
  | succ n ih =>
    intro v1 v2 σ r h Z C hE
    unfold X9_again_l43 at h
    refine r_iload_n (pc' := 44) C dX9_again_43 rfl 2 rfl ?_
    refine r_bipush (pc' := 46) C dX9_again_44 rfl kb_37 ?_
    refine r_icmp_ge (tgt := 72) (pc' := 49) C dX9_again_46 rfl rfl (fun c10 => ?_) (fun c10 => ?_)
    · rw [if_pos c10] at h
      refine r_aload_n (pc' := 73) C dX9_again_72 rfl 0 rfl ?_
      refine r_iconst (pc' := 74) C dX9_again_73 rfl kc_0 ?_
      obtain ⟨σ11, e12, h⟩ := bs h
      refine r_putI (pc' := 77) (σ1 := σ11) C fpX9_196 sh_149 rfl rfl rfl dX9_again_74 rfl e12 ?_
      refine r_iconst (pc' := 78) C dX9_again_77 rfl kc_1 ?_
      have h := Option.some.inj h
      subst h
      exact r_ret C rfl dX9_again_78 hE
    · rw [if_neg c10] at h
      refine r_aload_n (pc' := 50) C dX9_again_49 rfl 0 rfl ?_
      refine r_getR (pc' := 53) C flX9_34 sh_149 rfl dX9_again_50 rfl ?_
      refine r_iload_n (pc' := 54) C dX9_again_53 rfl 2 rfl ?_
      refine r_aload_n (pc' := 55) C dX9_again_54 rfl 0 rfl ?_
      refine r_getR (pc' := 58) C flX9_113 sh_149 rfl dX9_again_55 rfl ?_
      refine r_bipush (pc' := 60) C dX9_again_58 rfl kb_37 ?_
      refine r_iload_n (pc' := 61) C dX9_again_60 rfl 1 rfl ?_
      refine r_imul (pc' := 62) C dX9_again_61 rfl ?_
      refine r_iload_n (pc' := 63) C dX9_again_62 rfl 2 rfl ?_
      refine r_iadd (pc' := 64) C dX9_again_63 rfl ?_
      obtain ⟨q13, h⟩ := ck h
      refine r_iald (pc' := 65) C sh_179 (vin q13) dX9_again_64 rfl ?_
      obtain ⟨q14, h⟩ := ck h
      obtain ⟨σ15, e16, h⟩ := bs h
      refine r_iast (pc' := 66) (σ1 := σ15) C sh_153 (vin q14) dX9_again_65 rfl e16 ?_
      refine r_iinc (pc' := 69) (v := v2 + 1) (lv2 := [(2, .int (v2 + 1)), (0, .ref 149), (1, .int v1)]) C dX9_again_66 rfl 2 rfl rfl (Nat.le_of_ble_eq_true rfl) rfl ?_
      refine r_goto (tgt := 43) C dX9_again_69 rfl ?_
      refine r_sub [1, 2, 0] rfl ?_
      exact ih _ _ _ _ h Z C hE
def X9_again (N : Nat)  (v1 : Int32) (σ : Sg) : Option (Int32 × Sg) :=
  bnS (wi σ 149 0 0) fun σ1 => (X9_in N v1.toInt64 0 2 σ1).bind fun r3 => (if r3 = 0 then (some (0, σ1)) else (if inb v1 3 = true then if (gi σ1 177 v1.toNatClampNeg) = 0 then (some (0, σ1)) else (if inb v1 3 = true then if (gi σ1 178 v1.toNatClampNeg) = (gi σ1 149 4) then (X9_again_l43 N N v1 0 σ1) else (some (0, σ1)) else none) else none))
set_option maxRecDepth 100000 in
set_option maxHeartbeats 4000000 in
theorem X9_again_ok {E : Ev}  {N : Nat} {v1 : Int32} {σ : Sg} {r : Int32 × Sg} (h : X9_again N  v1 σ = some r) : Cm E (1) yX9_again cX9_again 3 (some .boolean) [.ref 149, .int v1] SH0 SH0 σ r.2 (some (.int r.1)) 0 0 := by
  refine Cm.intro (by decide +kernel) (Nat.le_of_ble_eq_true rfl) (fun _ h => by obtain ⟨_, _, _, _, _, _, h⟩ := h; exact h) (fun Z C hE => ?_)
  show Wm E Z 0 0 SH0 σ 0 [(0, .ref 149), (1, .int v1)] []
  unfold X9_again at h
  refine r_aload_n (pc' := 1) C dX9_again_0 rfl 0 rfl ?_
  refine r_iconst (pc' := 2) C dX9_again_1 rfl kc_0 ?_
  obtain ⟨σ1, e2, h⟩ := bs h
  refine r_putI (pc' := 5) (σ1 := σ1) C fpX9_3 sh_149 rfl rfl rfl dX9_again_2 rfl e2 ?_
  refine r_iload_n (pc' := 6) C dX9_again_5 rfl 1 rfl ?_
  refine r_i2l (pc' := 7) C dX9_again_6 rfl rfl ?_
  refine r_lconst (pc' := 8) C dX9_again_7 rfl kl_0 ?_
  refine r_ldc2 (pc' := 11) C cnX9_424 dX9_again_8 rfl ?_
  obtain ⟨r3, e4, h⟩ := bd h
  refine r_cS1 (pc' := 14) C (X9_in_ok  e4) mlX9_119 ceX9_in csX9_in rfl (Nat.le_of_ble_eq_true rfl) rfl (Nat.le_of_ble_eq_true rfl) dX9_again_11 rfl (kk := ?_)
  refine r_if_eq (tgt := 39) (pc' := 17) C dX9_again_14 rfl rfl (fun c5 => ?_) (fun c5 => ?_)
  · rw [if_pos c5] at h
    refine r_iconst (pc' := 40) C dX9_again_39 rfl kc_0 ?_
    have h := Option.some.inj h
    subst h
    exact r_ret C rfl dX9_again_40 hE
  · rw [if_neg c5] at h
    refine r_aload_n (pc' := 18) C dX9_again_17 rfl 0 rfl ?_
    refine r_getR (pc' := 21) C flX9_107 sh_149 rfl dX9_again_18 rfl ?_
    refine r_iload_n (pc' := 22) C dX9_again_21 rfl 1 rfl ?_
    obtain ⟨q6, h⟩ := ck h
    refine r_zald (pc' := 23) C sh_177 (vin q6) dX9_again_22 rfl ?_
    refine r_if_eq (tgt := 39) (pc' := 26) C dX9_again_23 rfl rfl (fun c7 => ?_) (fun c7 => ?_)
    · rw [if_pos c7] at h
      refine r_iconst (pc' := 40) C dX9_again_39 rfl kc_0 ?_
      have h := Option.some.inj h
      subst h
      exact r_ret C rfl dX9_again_40 hE
    · rw [if_neg c7] at h
      refine r_aload_n (pc' := 27) C dX9_again_26 rfl 0 rfl ?_
      refine r_getR (pc' := 30) C flX9_110 sh_149 rfl dX9_again_27 rfl ?_
      refine r_iload_n (pc' := 31) C dX9_again_30 rfl 1 rfl ?_
      obtain ⟨q8, h⟩ := ck h
      refine r_iald (pc' := 32) C sh_178 (vin q8) dX9_again_31 rfl ?_
      refine r_aload_n (pc' := 33) C dX9_again_32 rfl 0 rfl ?_
      refine r_getI (pc' := 36) C flX9_199 sh_149 rfl dX9_again_33 rfl ?_
      refine r_icmp_eq (tgt := 41) (pc' := 39) C dX9_again_36 rfl rfl (fun c9 => ?_) (fun c9 => ?_)
      · rw [if_pos c9] at h
        refine r_iconst (pc' := 42) C dX9_again_41 rfl kc_0 ?_
        refine r_istore_n (pc' := 43) (lv2 := [(2, .int 0), (0, .ref 149), (1, .int v1)]) C dX9_again_42 rfl rfl (Nat.le_of_ble_eq_true rfl) rfl ?_
        refine r_sub [1, 2, 0] rfl ?_
        exact X9_again_l43_ok  N _ _ _ _ h Z C hE
      · rw [if_neg c9] at h
        refine r_iconst (pc' := 40) C dX9_again_39 rfl kc_0 ?_
        have h := Option.some.inj h
        subst h
        exact r_ret C rfl dX9_again_40 hE

/-! BorrowedWeightModel.count(I)I -/
def X9_count (N : Nat)  (v1 : Int32) (σ : Sg) : Option (Int32 × Sg) :=
  bnS (wi σ 149 0 0) fun σ1 => if v1 = 0 then (some (gi σ1 149 3, σ1)) else if v1 = 1 then ((X9_here N 153 σ1).bind fun r5 => (some (r5, σ1))) else if v1 = 2 then ((X9_stringMany N 153 σ1).bind fun r8 => (some (r8, σ1))) else if v1 = 3 then (if inb 33 37 = true then some (gi σ1 153 (33 : Int32).toNatClampNeg, σ1) else none) else if v1 = 4 then (if inb 34 37 = true then some (gi σ1 153 (34 : Int32).toNatClampNeg, σ1) else none) else if v1 = 5 then (if inb 35 37 = true then some (gi σ1 153 (35 : Int32).toNatClampNeg, σ1) else none) else if v1 = 6 then (if inb 36 37 = true then some (gi σ1 153 (36 : Int32).toNatClampNeg, σ1) else none) else if v1 = 7 then (if inb 36 37 = true then (X9_windOn N (gi σ1 153 (36 : Int32).toNatClampNeg) σ1).bind fun r20 => (some (r20, σ1)) else none) else if v1 = 8 then ((X9_all N σ1).bind fun r23 => ((X9_sumOf N 153 0 r23 σ1).bind fun r25 => (some (r25, σ1)))) else if v1 = 9 then (some (gi σ1 149 35, σ1)) else if v1 = 10 then (some (gi σ1 149 23, σ1)) else if v1 = 11 then (some (gi σ1 149 1, σ1)) else if v1 = 12 then (some (gi σ1 149 11, σ1)) else (some ((-100), σ1))
set_option maxRecDepth 100000 in
set_option maxHeartbeats 4000000 in
theorem X9_count_ok {E : Ev}  {N : Nat} {v1 : Int32} {σ : Sg} {r : Int32 × Sg} (h : X9_count N  v1 σ = some r) : Cm E (2) yX9_count cX9_count 2 (some .int) [.ref 149, .int v1] SH0 SH0 σ r.2 (some (.int r.1)) 0 0 := by
  refine Cm.intro (by decide +kernel) (Nat.le_of_ble_eq_true rfl) (fun _ h => by obtain ⟨_, _, _, _, _, _, h⟩ := h; exact h) (fun Z C hE => ?_)
  show Wm E Z 0 0 SH0 σ 0 [(0, .ref 149), (1, .int v1)] []
  unfold X9_count at h
  refine r_aload_n (pc' := 1) C dX9_count_0 rfl 0 rfl ?_
  refine r_iconst (pc' := 2) C dX9_count_1 rfl kc_0 ?_
  obtain ⟨σ1, e2, h⟩ := bs h
  refine r_putI (pc' := 5) (σ1 := σ1) C fpX9_3 sh_149 rfl rfl rfl dX9_count_2 rfl e2 ?_
  refine r_iload_n (pc' := 6) C dX9_count_5 rfl 1 rfl ?_
  by_cases c3 : v1 = 0
  · rw [if_pos c3] at h
    refine r_tabIn (tgt := 72) C dX9_count_6 (by rw [c3]; decide) (by rw [c3]; decide) (by rw [c3]; rfl) rfl ?_
    refine r_aload_n (pc' := 73) C dX9_count_72 rfl 0 rfl ?_
    refine r_getI (pc' := 76) C flX9_116 sh_149 rfl dX9_count_73 rfl ?_
    have h := Option.some.inj h
    subst h
    exact r_ret C rfl dX9_count_76 hE
  rw [if_neg c3] at h
  by_cases c4 : v1 = 1
  · rw [if_pos c4] at h
    refine r_tabIn (tgt := 77) C dX9_count_6 (by rw [c4]; decide) (by rw [c4]; decide) (by rw [c4]; rfl) rfl ?_
    refine r_aload_n (pc' := 78) C dX9_count_77 rfl 0 rfl ?_
    refine r_aload_n (pc' := 79) C dX9_count_78 rfl 0 rfl ?_
    refine r_getR (pc' := 82) C flX9_34 sh_149 rfl dX9_count_79 rfl ?_
    obtain ⟨r5, e6, h⟩ := bd h
    refine r_cV1 (pc' := 85) C (X9_here_ok mac_153 e6) mlX9_307 ceX9_here cvX9_here sh_149 rfl rfl rfl (Nat.le_of_ble_eq_true rfl) rfl (Nat.le_of_ble_eq_true rfl) dX9_count_82 rfl (kk := ?_)
    have h := Option.some.inj h
    subst h
    exact r_ret C rfl dX9_count_85 hE
  rw [if_neg c4] at h
  by_cases c7 : v1 = 2
  · rw [if_pos c7] at h
    refine r_tabIn (tgt := 86) C dX9_count_6 (by rw [c7]; decide) (by rw [c7]; decide) (by rw [c7]; rfl) rfl ?_
    refine r_aload_n (pc' := 87) C dX9_count_86 rfl 0 rfl ?_
    refine r_aload_n (pc' := 88) C dX9_count_87 rfl 0 rfl ?_
    refine r_getR (pc' := 91) C flX9_34 sh_149 rfl dX9_count_88 rfl ?_
    obtain ⟨r8, e9, h⟩ := bd h
    refine r_cV1 (pc' := 94) C (X9_stringMany_ok mac_153 e9) mlX9_319 ceX9_stringMany cvX9_stringMany sh_149 rfl rfl rfl (Nat.le_of_ble_eq_true rfl) rfl (Nat.le_of_ble_eq_true rfl) dX9_count_91 rfl (kk := ?_)
    have h := Option.some.inj h
    subst h
    exact r_ret C rfl dX9_count_94 hE
  rw [if_neg c7] at h
  by_cases c10 : v1 = 3
  · rw [if_pos c10] at h
    refine r_tabIn (tgt := 95) C dX9_count_6 (by rw [c10]; decide) (by rw [c10]; decide) (by rw [c10]; rfl) rfl ?_
    refine r_aload_n (pc' := 96) C dX9_count_95 rfl 0 rfl ?_
    refine r_getR (pc' := 99) C flX9_34 sh_149 rfl dX9_count_96 rfl ?_
    refine r_bipush (pc' := 101) C dX9_count_99 rfl kb_33 ?_
    obtain ⟨q11, h⟩ := ck h
    refine r_iald (pc' := 102) C sh_153 (vin q11) dX9_count_101 rfl ?_
    have h := Option.some.inj h
    subst h
    exact r_ret C rfl dX9_count_102 hE
  rw [if_neg c10] at h
  by_cases c12 : v1 = 4
  · rw [if_pos c12] at h
    refine r_tabIn (tgt := 103) C dX9_count_6 (by rw [c12]; decide) (by rw [c12]; decide) (by rw [c12]; rfl) rfl ?_
    refine r_aload_n (pc' := 104) C dX9_count_103 rfl 0 rfl ?_
    refine r_getR (pc' := 107) C flX9_34 sh_149 rfl dX9_count_104 rfl ?_
    refine r_bipush (pc' := 109) C dX9_count_107 rfl kb_34 ?_
    obtain ⟨q13, h⟩ := ck h
    refine r_iald (pc' := 110) C sh_153 (vin q13) dX9_count_109 rfl ?_
    have h := Option.some.inj h
    subst h
    exact r_ret C rfl dX9_count_110 hE
  rw [if_neg c12] at h
  by_cases c14 : v1 = 5
  · rw [if_pos c14] at h
    refine r_tabIn (tgt := 111) C dX9_count_6 (by rw [c14]; decide) (by rw [c14]; decide) (by rw [c14]; rfl) rfl ?_
    refine r_aload_n (pc' := 112) C dX9_count_111 rfl 0 rfl ?_
    refine r_getR (pc' := 115) C flX9_34 sh_149 rfl dX9_count_112 rfl ?_
    refine r_bipush (pc' := 117) C dX9_count_115 rfl kb_35 ?_
    obtain ⟨q15, h⟩ := ck h
    refine r_iald (pc' := 118) C sh_153 (vin q15) dX9_count_117 rfl ?_
    have h := Option.some.inj h
    subst h
    exact r_ret C rfl dX9_count_118 hE
  rw [if_neg c14] at h
  by_cases c16 : v1 = 6
  · rw [if_pos c16] at h
    refine r_tabIn (tgt := 119) C dX9_count_6 (by rw [c16]; decide) (by rw [c16]; decide) (by rw [c16]; rfl) rfl ?_
    refine r_aload_n (pc' := 120) C dX9_count_119 rfl 0 rfl ?_
    refine r_getR (pc' := 123) C flX9_34 sh_149 rfl dX9_count_120 rfl ?_
    refine r_bipush (pc' := 125) C dX9_count_123 rfl kb_36 ?_
    obtain ⟨q17, h⟩ := ck h
    refine r_iald (pc' := 126) C sh_153 (vin q17) dX9_count_125 rfl ?_
    have h := Option.some.inj h
    subst h
    exact r_ret C rfl dX9_count_126 hE
  rw [if_neg c16] at h
  by_cases c18 : v1 = 7
  · rw [if_pos c18] at h
    refine r_tabIn (tgt := 127) C dX9_count_6 (by rw [c18]; decide) (by rw [c18]; decide) (by rw [c18]; rfl) rfl ?_
    refine r_aload_n (pc' := 128) C dX9_count_127 rfl 0 rfl ?_
    refine r_aload_n (pc' := 129) C dX9_count_128 rfl 0 rfl ?_
    refine r_getR (pc' := 132) C flX9_34 sh_149 rfl dX9_count_129 rfl ?_
    refine r_bipush (pc' := 134) C dX9_count_132 rfl kb_36 ?_
    obtain ⟨q19, h⟩ := ck h
    refine r_iald (pc' := 135) C sh_153 (vin q19) dX9_count_134 rfl ?_
    obtain ⟨r20, e21, h⟩ := bd h
    refine r_cV1 (pc' := 138) C (X9_windOn_ok  e21) mlX9_261 ceX9_windOn cvX9_windOn sh_149 rfl rfl rfl (Nat.le_of_ble_eq_true rfl) rfl (Nat.le_of_ble_eq_true rfl) dX9_count_135 rfl (kk := ?_)
    have h := Option.some.inj h
    subst h
    exact r_ret C rfl dX9_count_138 hE
  rw [if_neg c18] at h
  by_cases c22 : v1 = 8
  · rw [if_pos c22] at h
    refine r_tabIn (tgt := 139) C dX9_count_6 (by rw [c22]; decide) (by rw [c22]; decide) (by rw [c22]; rfl) rfl ?_
    refine r_aload_n (pc' := 140) C dX9_count_139 rfl 0 rfl ?_
    refine r_aload_n (pc' := 141) C dX9_count_140 rfl 0 rfl ?_
    refine r_getR (pc' := 144) C flX9_34 sh_149 rfl dX9_count_141 rfl ?_
    refine r_iconst (pc' := 145) C dX9_count_144 rfl kc_0 ?_
    refine r_aload_n (pc' := 146) C dX9_count_145 rfl 0 rfl ?_
    obtain ⟨r23, e24, h⟩ := bd h
    refine r_cV1 (pc' := 149) C (X9_all_ok  e24) mlX9_131 ceX9_all cvX9_all sh_149 rfl rfl rfl (Nat.le_of_ble_eq_true rfl) rfl (Nat.le_of_ble_eq_true rfl) dX9_count_146 rfl (kk := ?_)
    obtain ⟨r25, e26, h⟩ := bd h
    refine r_cV1 (pc' := 152) C (X9_sumOf_ok mac_153 e26) mlX9_274 ceX9_sumOf cvX9_sumOf sh_149 rfl rfl rfl (Nat.le_of_ble_eq_true rfl) rfl (Nat.le_of_ble_eq_true rfl) dX9_count_149 rfl (kk := ?_)
    have h := Option.some.inj h
    subst h
    exact r_ret C rfl dX9_count_152 hE
  rw [if_neg c22] at h
  by_cases c27 : v1 = 9
  · rw [if_pos c27] at h
    refine r_tabIn (tgt := 153) C dX9_count_6 (by rw [c27]; decide) (by rw [c27]; decide) (by rw [c27]; rfl) rfl ?_
    refine r_aload_n (pc' := 154) C dX9_count_153 rfl 0 rfl ?_
    refine r_getI (pc' := 157) C flX9_381 sh_149 rfl dX9_count_154 rfl ?_
    have h := Option.some.inj h
    subst h
    exact r_ret C rfl dX9_count_157 hE
  rw [if_neg c27] at h
  by_cases c28 : v1 = 10
  · rw [if_pos c28] at h
    refine r_tabIn (tgt := 158) C dX9_count_6 (by rw [c28]; decide) (by rw [c28]; decide) (by rw [c28]; rfl) rfl ?_
    refine r_aload_n (pc' := 159) C dX9_count_158 rfl 0 rfl ?_
    refine r_getI (pc' := 162) C flX9_196 sh_149 rfl dX9_count_159 rfl ?_
    have h := Option.some.inj h
    subst h
    exact r_ret C rfl dX9_count_162 hE
  rw [if_neg c28] at h
  by_cases c29 : v1 = 11
  · rw [if_pos c29] at h
    refine r_tabIn (tgt := 163) C dX9_count_6 (by rw [c29]; decide) (by rw [c29]; decide) (by rw [c29]; rfl) rfl ?_
    refine r_aload_n (pc' := 164) C dX9_count_163 rfl 0 rfl ?_
    refine r_getI (pc' := 167) C flX9_15 sh_149 rfl dX9_count_164 rfl ?_
    have h := Option.some.inj h
    subst h
    exact r_ret C rfl dX9_count_167 hE
  rw [if_neg c29] at h
  by_cases c30 : v1 = 12
  · rw [if_pos c30] at h
    refine r_tabIn (tgt := 168) C dX9_count_6 (by rw [c30]; decide) (by rw [c30]; decide) (by rw [c30]; rfl) rfl ?_
    refine r_aload_n (pc' := 169) C dX9_count_168 rfl 0 rfl ?_
    refine r_getI (pc' := 172) C flX9_141 sh_149 rfl dX9_count_169 rfl ?_
    have h := Option.some.inj h
    subst h
    exact r_ret C rfl dX9_count_172 hE
  rw [if_neg c30] at h
  have o31 : v1.toInt < 0 ∨ 12 < v1.toInt := by
    refine tab_out (fun k h1 h2 => ?_) (by decide) (by decide)
    have hk : k = 0 ∨ k = 1 ∨ k = 2 ∨ k = 3 ∨ k = 4 ∨ k = 5 ∨ k = 6 ∨ k = 7 ∨ k = 8 ∨ k = 9 ∨ k = 10 ∨ k = 11 ∨ k = 12 := by omega
    rcases hk with rfl | rfl | rfl | rfl | rfl | rfl | rfl | rfl | rfl | rfl | rfl | rfl | rfl
    · exact c3
    · exact c4
    · exact c7
    · exact c10
    · exact c12
    · exact c14
    · exact c16
    · exact c18
    · exact c22
    · exact c27
    · exact c28
    · exact c29
    · exact c30
  refine r_tabOut (tgt := 173) C dX9_count_6 o31 rfl ?_
  refine r_bipush (pc' := 175) C dX9_count_173 rfl kb_m100 ?_
  have h := Option.some.inj h
  subst h
  exact r_ret C rfl dX9_count_175 hE

/-! BorrowedWeightModel.row(I)J -/
def X9_row (N : Nat)  (v1 : Int32) (σ : Sg) : Option (Int64 × Sg) :=
  bnS (wi σ 149 0 0) fun σ1 => (X9_in N v1.toInt64 0 (((gi σ1 149 1) - 1).toInt64) σ1).bind fun r3 => (if r3 = 0 then (bnS (wi σ1 149 0 1) fun σ7 => some (0, σ7)) else (if inb v1 24 = true then some (gl σ1 150 v1.toNatClampNeg, σ1) else none))
set_option maxRecDepth 100000 in
set_option maxHeartbeats 4000000 in
theorem X9_row_ok {E : Ev}  {N : Nat} {v1 : Int32} {σ : Sg} {r : Int64 × Sg} (h : X9_row N  v1 σ = some r) : Cm E (1) yX9_row cX9_row 2 (some .long) [.ref 149, .int v1] SH0 SH0 σ r.2 (some (.long r.1)) 0 0 := by
  refine Cm.intro (by decide +kernel) (Nat.le_of_ble_eq_true rfl) (fun _ h => by obtain ⟨_, _, _, _, _, _, h⟩ := h; exact h) (fun Z C hE => ?_)
  show Wm E Z 0 0 SH0 σ 0 [(0, .ref 149), (1, .int v1)] []
  unfold X9_row at h
  refine r_aload_n (pc' := 1) C dX9_row_0 rfl 0 rfl ?_
  refine r_iconst (pc' := 2) C dX9_row_1 rfl kc_0 ?_
  obtain ⟨σ1, e2, h⟩ := bs h
  refine r_putI (pc' := 5) (σ1 := σ1) C fpX9_3 sh_149 rfl rfl rfl dX9_row_2 rfl e2 ?_
  refine r_iload_n (pc' := 6) C dX9_row_5 rfl 1 rfl ?_
  refine r_i2l (pc' := 7) C dX9_row_6 rfl rfl ?_
  refine r_lconst (pc' := 8) C dX9_row_7 rfl kl_0 ?_
  refine r_aload_n (pc' := 9) C dX9_row_8 rfl 0 rfl ?_
  refine r_getI (pc' := 12) C flX9_15 sh_149 rfl dX9_row_9 rfl ?_
  refine r_iconst (pc' := 13) C dX9_row_12 rfl kc_1 ?_
  refine r_isub (pc' := 14) C dX9_row_13 rfl ?_
  refine r_i2l (pc' := 15) C dX9_row_14 rfl rfl ?_
  obtain ⟨r3, e4, h⟩ := bd h
  refine r_cS1 (pc' := 18) C (X9_in_ok  e4) mlX9_119 ceX9_in csX9_in rfl (Nat.le_of_ble_eq_true rfl) rfl (Nat.le_of_ble_eq_true rfl) dX9_row_15 rfl (kk := ?_)
  refine r_if_ne (tgt := 28) (pc' := 21) C dX9_row_18 rfl rfl (fun c5 => ?_) (fun c5 => ?_)
  · rw [if_neg c5] at h
    refine r_aload_n (pc' := 29) C dX9_row_28 rfl 0 rfl ?_
    refine r_getR (pc' := 32) C flX9_11 sh_149 rfl dX9_row_29 rfl ?_
    refine r_iload_n (pc' := 33) C dX9_row_32 rfl 1 rfl ?_
    obtain ⟨q6, h⟩ := ck h
    refine r_lald (pc' := 34) C sh_150 (vin q6) dX9_row_33 rfl ?_
    have h := Option.some.inj h
    subst h
    exact r_lret C dX9_row_34 hE
  · rw [if_pos c5] at h
    refine r_aload_n (pc' := 22) C dX9_row_21 rfl 0 rfl ?_
    refine r_iconst (pc' := 23) C dX9_row_22 rfl kc_1 ?_
    obtain ⟨σ7, e8, h⟩ := bs h
    refine r_putI (pc' := 26) (σ1 := σ7) C fpX9_3 sh_149 rfl rfl rfl dX9_row_23 rfl e8 ?_
    refine r_lconst (pc' := 27) C dX9_row_26 rfl kl_0 ?_
    have h := Option.some.inj h
    subst h
    exact r_lret C dX9_row_27 hE
