/-! BorrowedWeightModel.count(I)I -/
def X9_count (N : Nat)  (v1 : Int32) (σ : Sg) : Option (Int32 × Sg) :=
  bnS (wi σ 149 0 0) fun σ1 => if v1 = 0 then (some (gi σ1 149 3, σ1)) else if v1 = 1 then ((X9_here N 153 σ1).bind fun r5 => (some (r5, σ1))) else if v1 = 2 then ((X9_stringMany N 153 σ1).bind fun r8 => (some (r8, σ1))) else if v1 = 3 then (if inb 33 37 = true then some (gi σ1 153 (33 : Int32).toNatClampNeg, σ1) else none) else if v1 = 4 then (if inb 34 37 = true then some (gi σ1 153 (34 : Int32).toNatClampNeg, σ1) else none) else if v1 = 5 then (if inb 35 37 = true then some (gi σ1 153 (35 : Int32).toNatClampNeg, σ1) else none) else if v1 = 6 then (if inb 36 37 = true then some (gi σ1 153 (36 : Int32).toNatClampNeg, σ1) else none) else if v1 = 7 then (if inb 36 37 = true then (X9_windOn N (gi σ1 153 (36 : Int32).toNatClampNeg) σ1).bind fun r20 => (some (r20, σ1)) else none) else if v1 = 8 then ((X9_all N σ1).bind fun r23 => ((X9_sumOf N 153 0 r23 σ1).bind fun r25 => (some (r25, σ1)))) else if v1 = 9 then (some (gi σ1 149 35, σ1)) else if v1 = 10 then (some (gi σ1 149 23, σ1)) else if v1 = 11 then (some (gi σ1 149 1, σ1)) else if v1 = 12 then (some (gi σ1 149 11, σ1)) else (some ((-100), σ1))
set_option maxRecDepth 100000 in
set_option maxHeartbeats 4000000 in
theorem X9_count_ok {E : Ev}  {N : Nat} {v1 : Int32} {σ : Sg} {r : Int32 × Sg} (h : X9_count N  v1 σ = some r) : Cm E 2 yX9_count cX9_count 2 (some .int) [.ref 149, .int v1] SH0 SH0 σ r.2 (some (.int r.1)) 0 0 := by
  refine Cm.intro (by decide +kernel) (Nat.le_of_ble_eq_true rfl) (fun _ h => by obtain ⟨_, _, _, _, _, _, h⟩ := h; exact h) (fun Z C hE => ?_)
  show Wm E Z 0 0 SH0 σ 0 [(0, .ref 149), (1, .int v1)] []
  unfold X9_count at h
  refine r_aload_n (pc' := 1) C dX9_count_0 rfl 0 rfl ?_
  refine r_iconst (pc' := 2) C dX9_count_1 rfl kc_0 ?_
  obtain ⟨σ1, e2, h⟩ := bs h
  refine r_putI (pc' := 5) (σ1 := σ1) C fpX9_3 sh_149 rfl rfl rfl dX9_count_2 rfl e2 ?_
  refine r_iload_n (pc' := 6) C dX9_count_5 rfl 1 rfl ?_
  by_cases c3 : v1 = 0
  · rw [if_pos c3] at h
    refine r_tabIn (tgt := 72) C dX9_count_6 (by rw [c3]; decide) (by rw [c3]; decide) (by rw [c3]; rfl) rfl ?_
    refine r_aload_n (pc' := 73) C dX9_count_72 rfl 0 rfl ?_
    refine r_getI (pc' := 76) C flX9_116 sh_149 rfl dX9_count_73 rfl ?_
    have h := Option.some.inj h
    subst h
    exact r_ret C rfl dX9_count_76 hE
  rw [if_neg c3] at h
  by_cases c4 : v1 = 1
  · rw [if_pos c4] at h
    refine r_tabIn (tgt := 77) C dX9_count_6 (by rw [c4]; decide) (by rw [c4]; decide) (by rw [c4]; rfl) rfl ?_
    refine r_aload_n (pc' := 78) C dX9_count_77 rfl 0 rfl ?_
    refine r_aload_n (pc' := 79) C dX9_count_78 rfl 0 rfl ?_
    refine r_getR (pc' := 82) C flX9_34 sh_149 rfl dX9_count_79 rfl ?_
    obtain ⟨r5, e6, h⟩ := bd h
    refine r_cV1 (pc' := 85) C (X9_here_ok mac_153 e6) mlX9_307 ceX9_here cvX9_here sh_149 rfl rfl rfl (Nat.le_of_ble_eq_true rfl) rfl (Nat.le_of_ble_eq_true rfl) dX9_count_82 rfl (kk := ?_)
    have h := Option.some.inj h
    subst h
    exact r_ret C rfl dX9_count_85 hE
  rw [if_neg c4] at h
  by_cases c7 : v1 = 2
  · rw [if_pos c7] at h
    refine r_tabIn (tgt := 86) C dX9_count_6 (by rw [c7]; decide) (by rw [c7]; decide) (by rw [c7]; rfl) rfl ?_
    refine r_aload_n (pc' := 87) C dX9_count_86 rfl 0 rfl ?_
    refine r_aload_n (pc' := 88) C dX9_count_87 rfl 0 rfl ?_
    refine r_getR (pc' := 91) C flX9_34 sh_149 rfl dX9_count_88 rfl ?_
    obtain ⟨r8, e9, h⟩ := bd h
    refine r_cV1 (pc' := 94) C (X9_stringMany_ok mac_153 e9) mlX9_319 ceX9_stringMany cvX9_stringMany sh_149 rfl rfl rfl (Nat.le_of_ble_eq_true rfl) rfl (Nat.le_of_ble_eq_true rfl) dX9_count_91 rfl (kk := ?_)
    have h := Option.some.inj h
    subst h
    exact r_ret C rfl dX9_count_94 hE
  rw [if_neg c7] at h
  by_cases c10 : v1 = 3
  · rw [if_pos c10] at h
    refine r_tabIn (tgt := 95) C dX9_count_6 (by rw [c10]; decide) (by rw [c10]; decide) (by rw [c10]; rfl) rfl ?_
    refine r_aload_n (pc' := 96) C dX9_count_95 rfl 0 rfl ?_
    refine r_getR (pc' := 99) C flX9_34 sh_149 rfl dX9_count_96 rfl ?_
    refine r_bipush (pc' := 101) C dX9_count_99 rfl kb_33 ?_
    obtain ⟨q11, h⟩ := ck h
    refine r_iald (pc' := 102) C sh_153 (vin q11) dX9_count_101 rfl ?_
    have h := Option.some.inj h
    subst h
    exact r_ret C rfl dX9_count_102 hE
  rw [if_neg c10] at h
  by_cases c12 : v1 = 4
  · rw [if_pos c12] at h
    refine r_tabIn (tgt := 103) C dX9_count_6 (by rw [c12]; decide) (by rw [c12]; decide) (by rw [c12]; rfl) rfl ?_
    refine r_aload_n (pc' := 104) C dX9_count_103 rfl 0 rfl ?_
    refine r_getR (pc' := 107) C flX9_34 sh_149 rfl dX9_count_104 rfl ?_
    refine r_bipush (pc' := 109) C dX9_count_107 rfl kb_34 ?_
    obtain ⟨q13, h⟩ := ck h
    refine r_iald (pc' := 110) C sh_153 (vin q13) dX9_count_109 rfl ?_
    have h := Option.some.inj h
    subst h
    exact r_ret C rfl dX9_count_110 hE
  rw [if_neg c12] at h
  by_cases c14 : v1 = 5
  · rw [if_pos c14] at h
    refine r_tabIn (tgt := 111) C dX9_count_6 (by rw [c14]; decide) (by rw [c14]; decide) (by rw [c14]; rfl) rfl ?_
    refine r_aload_n (pc' := 112) C dX9_count_111 rfl 0 rfl ?_
    refine r_getR (pc' := 115) C flX9_34 sh_149 rfl dX9_count_112 rfl ?_
    refine r_bipush (pc' := 117) C dX9_count_115 rfl kb_35 ?_
    obtain ⟨q15, h⟩ := ck h
    refine r_iald (pc' := 118) C sh_153 (vin q15) dX9_count_117 rfl ?_
    have h := Option.some.inj h
    subst h
    exact r_ret C rfl dX9_count_118 hE
  rw [if_neg c14] at h
  by_cases c16 : v1 = 6
  · rw [if_pos c16] at h
    refine r_tabIn (tgt := 119) C dX9_count_6 (by rw [c16]; decide) (by rw [c16]; decide) (by rw [c16]; rfl) rfl ?_
    refine r_aload_n (pc' := 120) C dX9_count_119 rfl 0 rfl ?_
    refine r_getR (pc' := 123) C flX9_34 sh_149 rfl dX9_count_120 rfl ?_
    refine r_bipush (pc' := 125) C dX9_count_123 rfl kb_36 ?_
    obtain ⟨q17, h⟩ := ck h
    refine r_iald (pc' := 126) C sh_153 (vin q17) dX9_count_125 rfl ?_
    have h := Option.some.inj h
    subst h
    exact r_ret C rfl dX9_count_126 hE
  rw [if_neg c16] at h
  by_cases c18 : v1 = 7
  · rw [if_pos c18] at h
    refine r_tabIn (tgt := 127) C dX9_count_6 (by rw [c18]; decide) (by rw [c18]; decide) (by rw [c18]; rfl) rfl ?_
    refine r_aload_n (pc' := 128) C dX9_count_127 rfl 0 rfl ?_
    refine r_aload_n (pc' := 129) C dX9_count_128 rfl 0 rfl ?_
    refine r_getR (pc' := 132) C flX9_34 sh_149 rfl dX9_count_129 rfl ?_
    refine r_bipush (pc' := 134) C dX9_count_132 rfl kb_36 ?_
    obtain ⟨q19, h⟩ := ck h
    refine r_iald (pc' := 135) C sh_153 (vin q19) dX9_count_134 rfl ?_
    obtain ⟨r20, e21, h⟩ := bd h
    refine r_cV1 (pc' := 138) C (X9_windOn_ok  e21) mlX9_261 ceX9_windOn cvX9_windOn sh_149 rfl rfl rfl (Nat.le_of_ble_eq_true rfl) rfl (Nat.le_of_ble_eq_true rfl) dX9_count_135 rfl (kk := ?_)
    have h := Option.some.inj h
    subst h
    exact r_ret C rfl dX9_count_138 hE
  rw [if_neg c18] at h
  by_cases c22 : v1 = 8
  · rw [if_pos c22] at h
    refine r_tabIn (tgt := 139) C dX9_count_6 (by rw [c22]; decide) (by rw [c22]; decide) (by rw [c22]; rfl) rfl ?_
    refine r_aload_n (pc' := 140) C dX9_count_139 rfl 0 rfl ?_
    refine r_aload_n (pc' := 141) C dX9_count_140 rfl 0 rfl ?_
    refine r_getR (pc' := 144) C flX9_34 sh_149 rfl dX9_count_141 rfl ?_
    refine r_iconst (pc' := 145) C dX9_count_144 rfl kc_0 ?_
    refine r_aload_n (pc' := 146) C dX9_count_145 rfl 0 rfl ?_
    obtain ⟨r23, e24, h⟩ := bd h
    refine r_cV1 (pc' := 149) C (X9_all_ok  e24) mlX9_131 ceX9_all cvX9_all sh_149 rfl rfl rfl (Nat.le_of_ble_eq_true rfl) rfl (Nat.le_of_ble_eq_true rfl) dX9_count_146 rfl (kk := ?_)
    obtain ⟨r25, e26, h⟩ := bd h
    refine r_cV1 (pc' := 152) C (X9_sumOf_ok mac_153 e26) mlX9_274 ceX9_sumOf cvX9_sumOf sh_149 rfl rfl rfl (Nat.le_of_ble_eq_true rfl) rfl (Nat.le_of_ble_eq_true rfl) dX9_count_149 rfl (kk := ?_)
    have h := Option.some.inj h
    subst h
    exact r_ret C rfl dX9_count_152 hE
  rw [if_neg c22] at h
  by_cases c27 : v1 = 9
  · rw [if_pos c27] at h
    refine r_tabIn (tgt := 153) C dX9_count_6 (by rw [c27]; decide) (by rw [c27]; decide) (by rw [c27]; rfl) rfl ?_
    refine r_aload_n (pc' := 154) C dX9_count_153 rfl 0 rfl ?_
    refine r_getI (pc' := 157) C flX9_381 sh_149 rfl dX9_count_154 rfl ?_
    have h := Option.some.inj h
    subst h
    exact r_ret C rfl dX9_count_157 hE
  rw [if_neg c27] at h
  by_cases c28 : v1 = 10
  · rw [if_pos c28] at h
    refine r_tabIn (tgt := 158) C dX9_count_6 (by rw [c28]; decide) (by rw [c28]; decide) (by rw [c28]; rfl) rfl ?_
    refine r_aload_n (pc' := 159) C dX9_count_158 rfl 0 rfl ?_
    refine r_getI (pc' := 162) C flX9_196 sh_149 rfl dX9_count_159 rfl ?_
    have h := Option.some.inj h
    subst h
    exact r_ret C rfl dX9_count_162 hE
  rw [if_neg c28] at h
  by_cases c29 : v1 = 11
  · rw [if_pos c29] at h
    refine r_tabIn (tgt := 163) C dX9_count_6 (by rw [c29]; decide) (by rw [c29]; decide) (by rw [c29]; rfl) rfl ?_
    refine r_aload_n (pc' := 164) C dX9_count_163 rfl 0 rfl ?_
    refine r_getI (pc' := 167) C flX9_15 sh_149 rfl dX9_count_164 rfl ?_
    have h := Option.some.inj h
    subst h
    exact r_ret C rfl dX9_count_167 hE
  rw [if_neg c29] at h
  by_cases c30 : v1 = 12
  · rw [if_pos c30] at h
    refine r_tabIn (tgt := 168) C dX9_count_6 (by rw [c30]; decide) (by rw [c30]; decide) (by rw [c30]; rfl) rfl ?_
    refine r_aload_n (pc' := 169) C dX9_count_168 rfl 0 rfl ?_
    refine r_getI (pc' := 172) C flX9_141 sh_149 rfl dX9_count_169 rfl ?_
    have h := Option.some.inj h
    subst h
    exact r_ret C rfl dX9_count_172 hE
  rw [if_neg c30] at h
  have o31 : v1.toInt < 0 ∨ 12 < v1.toInt := by
    refine tab_out (fun k h1 h2 => ?_) (by decide) (by decide)
    have hk : k = 0 ∨ k = 1 ∨ k = 2 ∨ k = 3 ∨ k = 4 ∨ k = 5 ∨ k = 6 ∨ k = 7 ∨ k = 8 ∨ k = 9 ∨ k = 10 ∨ k = 11 ∨ k = 12 := by omega
    rcases hk with rfl | rfl | rfl | rfl | rfl | rfl | rfl | rfl | rfl | rfl | rfl | rfl | rfl
    · exact c3
    · exact c4
    · exact c7
    · exact c10
    · exact c12
    · exact c14
    · exact c16
    · exact c18
    · exact c22
    · exact c27
    · exact c28
    · exact c29
    · exact c30
  refine r_tabOut (tgt := 173) C dX9_count_6 o31 rfl ?_
  refine r_bipush (pc' := 175) C dX9_count_173 rfl kb_m100 ?_
  have h := Option.some.inj h
  subst h
  exact r_ret C rfl dX9_count_175 hE

/-! BorrowedWeightModel.row(I)J -/
def X9_row (N : Nat)  (v1 : Int32) (σ : Sg) : Option (Int64 × Sg) :=
  bnS (wi σ 149 0 0) fun σ1 => (X9_in N v1.toInt64 0 (((gi σ1 149 1) - 1).toInt64) σ1).bind fun r3 => (if r3 = 0 then (bnS (wi σ1 149 0 1) fun σ7 => some (0, σ7)) else (if inb v1 24 = true then some (gl σ1 150 v1.toNatClampNeg, σ1) else none))
set_option maxRecDepth 100000 in
set_option maxHeartbeats 4000000 in
theorem X9_row_ok {E : Ev}  {N : Nat} {v1 : Int32} {σ : Sg} {r : Int64 × Sg} (h : X9_row N  v1 σ = some r) : Cm E 1 yX9_row cX9_row 2 (some .long) [.ref 149, .int v1] SH0 SH0 σ r.2 (some (.long r.1)) 0 0 := by
  refine Cm.intro (by decide +kernel) (Nat.le_of_ble_eq_true rfl) (fun _ h => by obtain ⟨_, _, _, _, _, _, h⟩ := h; exact h) (fun Z C hE => ?_)
  show Wm E Z 0 0 SH0 σ 0 [(0, .ref 149), (1, .int v1)] []
  unfold X9_row at h
  refine r_aload_n (pc' := 1) C dX9_row_0 rfl 0 rfl ?_
  refine r_iconst (pc' := 2) C dX9_row_1 rfl kc_0 ?_
  obtain ⟨σ1, e2, h⟩ := bs h
  refine r_putI (pc' := 5) (σ1 := σ1) C fpX9_3 sh_149 rfl rfl rfl dX9_row_2 rfl e2 ?_
  refine r_iload_n (pc' := 6) C dX9_row_5 rfl 1 rfl ?_
  refine r_i2l (pc' := 7) C dX9_row_6 rfl rfl ?_
  refine r_lconst (pc' := 8) C dX9_row_7 rfl kl_0 ?_
  refine r_aload_n (pc' := 9) C dX9_row_8 rfl 0 rfl ?_
  refine r_getI (pc' := 12) C flX9_15 sh_149 rfl dX9_row_9 rfl ?_
  refine r_iconst (pc' := 13) C dX9_row_12 rfl kc_1 ?_
  refine r_isub (pc' := 14) C dX9_row_13 rfl ?_
  refine r_i2l (pc' := 15) C dX9_row_14 rfl rfl ?_
  obtain ⟨r3, e4, h⟩ := bd h
  refine r_cS1 (pc' := 18) C (X9_in_ok  e4) mlX9_119 ceX9_in csX9_in rfl (Nat.le_of_ble_eq_true rfl) rfl (Nat.le_of_ble_eq_true rfl) dX9_row_15 rfl (kk := ?_)
  refine r_if_ne (tgt := 28) (pc' := 21) C dX9_row_18 rfl rfl (fun c5 => ?_) (fun c5 => ?_)
  · rw [if_neg c5] at h
    refine r_aload_n (pc' := 29) C dX9_row_28 rfl 0 rfl ?_
    refine r_getR (pc' := 32) C flX9_11 sh_149 rfl dX9_row_29 rfl ?_
    refine r_iload_n (pc' := 33) C dX9_row_32 rfl 1 rfl ?_
    obtain ⟨q6, h⟩ := ck h
    refine r_lald (pc' := 34) C sh_150 (vin q6) dX9_row_33 rfl ?_
    have h := Option.some.inj h
    subst h
    exact r_lret C dX9_row_34 hE
  · rw [if_pos c5] at h
    refine r_aload_n (pc' := 22) C dX9_row_21 rfl 0 rfl ?_
    refine r_iconst (pc' := 23) C dX9_row_22 rfl kc_1 ?_
    obtain ⟨σ7, e8, h⟩ := bs h
    refine r_putI (pc' := 26) (σ1 := σ7) C fpX9_3 sh_149 rfl rfl rfl dX9_row_23 rfl e8 ?_
    refine r_lconst (pc' := 27) C dX9_row_26 rfl kl_0 ?_
    have h := Option.some.inj h
    subst h
    exact r_lret C dX9_row_27 hE
