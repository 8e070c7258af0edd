/-! BorrowedWeightModel.need([II)I -/
def X9_need (N : Nat) (k1 : Nat) (v2 : Int32) (σ : Sg) : Option (Int32 × Sg) :=
  if inb 32 37 = true then (X9_has N (gi σ k1 (32 : Int32).toNatClampNeg) v2 σ).bind fun r2 => (if r2 = 0 then (if inb v2 8 = true then if inb 0 8 = true then bnS (wi σ 160 (0 : Int32).toNatClampNeg (gi σ 151 v2.toNatClampNeg)) fun σ7 => if inb 36 37 = true then (X9_windOn N (gi σ7 k1 (36 : Int32).toNatClampNeg) σ7).bind fun r10 => (if inb 1 8 = true then bnS (wi σ7 160 (1 : Int32).toNatClampNeg r10) fun σ13 => if inb (24 + v2) 37 = true then (J6_bitCount_0f7a4 N (gi σ13 k1 (24 + v2).toNatClampNeg) σ13).bind fun r16 => (if inb 2 8 = true then bnS (wi σ13 160 (2 : Int32).toNatClampNeg r16) fun σ19 => if inb v2 37 = true then if inb 3 8 = true then bnS (wi σ19 160 (3 : Int32).toNatClampNeg (gi σ19 k1 v2.toNatClampNeg)) fun σ23 => if inb (8 + v2) 37 = true then if inb 4 8 = true then bnS (wi σ23 160 (4 : Int32).toNatClampNeg (gi σ23 k1 (8 + v2).toNatClampNeg)) fun σ27 => if inb (16 + v2) 37 = true then if inb 5 8 = true then bnS (wi σ27 160 (5 : Int32).toNatClampNeg (gi σ27 k1 (16 + v2).toNatClampNeg)) fun σ31 => if inb 6 8 = true then bnS (wi σ31 160 (6 : Int32).toNatClampNeg v2) fun σ34 => if inb 36 37 = true then if inb 7 8 = true then bnS (wi σ34 160 (7 : Int32).toNatClampNeg ((gi σ34 k1 (36 : Int32).toNatClampNeg) - (gi σ34 k1 (36 : Int32).toNatClampNeg) / 7 * 7)) fun σ39 => (X9_ruled N σ39).bind fun r41 => ((J9_min_7cf53 N 9 r41.1 r41.2).bind fun r43 => ((J9_max_7cf53 N 0 r43 r41.2).bind fun r45 => (some (r45, r41.2)))) else none else none else none else none else none else none else none else none else none else none) else none else none) else none else none else none) else (some (0, σ))) else none
set_option maxRecDepth 100000 in
set_option maxHeartbeats 4000000 in
theorem X9_need_ok {E : Ev} {k1 : Nat} (hk1 : MaAt SH0 k1) {N : Nat} {v2 : Int32} {σ : Sg} {r : Int32 × Sg} (h : X9_need N k1 v2 σ = some r) : Cm E 3 yX9_need cX9_need 3 (some .int) [.ref 149, .ref k1, .int v2] SH0 SH0 σ r.2 (some (.int r.1)) 0 0 := by
  refine Cm.intro (by decide +kernel) (Nat.le_of_ble_eq_true rfl) (fun _ h => by obtain ⟨_, _, _, _, _, _, h⟩ := h; exact h) (fun Z C hE => ?_)
  show Wm E Z 0 0 SH0 σ 0 [(0, .ref 149), (1, .ref k1), (2, .int v2)] []
  unfold X9_need at h
  refine r_aload_n (pc' := 1) C dX9_need_0 rfl 1 rfl ?_
  refine r_bipush (pc' := 3) C dX9_need_1 rfl kb_32 ?_
  obtain ⟨q1, h⟩ := ck h
  refine r_iald (pc' := 4) C hk1 (vin q1) dX9_need_3 rfl ?_
  refine r_iload_n (pc' := 5) C dX9_need_4 rfl 2 rfl ?_
  obtain ⟨r2, e3, h⟩ := bd h
  refine r_cS1 (pc' := 8) C (X9_has_ok  e3) mlX9_127 ceX9_has csX9_has rfl (Nat.le_of_ble_eq_true rfl) rfl (Nat.le_of_ble_eq_true rfl) dX9_need_5 rfl (kk := ?_)
  refine r_if_eq (tgt := 13) (pc' := 11) C dX9_need_8 rfl rfl (fun c4 => ?_) (fun c4 => ?_)
  · rw [if_pos c4] at h
    refine r_aload_n (pc' := 14) C dX9_need_13 rfl 0 rfl ?_
    refine r_getR (pc' := 17) C flX9_55 sh_149 rfl dX9_need_14 rfl ?_
    refine r_iconst (pc' := 18) C dX9_need_17 rfl kc_0 ?_
    refine r_aload_n (pc' := 19) C dX9_need_18 rfl 0 rfl ?_
    refine r_getR (pc' := 22) C flX9_27 sh_149 rfl dX9_need_19 rfl ?_
    refine r_iload_n (pc' := 23) C dX9_need_22 rfl 2 rfl ?_
    obtain ⟨q5, h⟩ := ck h
    refine r_iald (pc' := 24) C sh_151 (vin q5) dX9_need_23 rfl ?_
    obtain ⟨q6, h⟩ := ck h
    obtain ⟨σ7, e8, h⟩ := bs h
    refine r_iast (pc' := 25) (σ1 := σ7) C sh_160 (vin q6) dX9_need_24 rfl e8 ?_
    refine r_aload_n (pc' := 26) C dX9_need_25 rfl 0 rfl ?_
    refine r_getR (pc' := 29) C flX9_55 sh_149 rfl dX9_need_26 rfl ?_
    refine r_iconst (pc' := 30) C dX9_need_29 rfl kc_1 ?_
    refine r_aload_n (pc' := 31) C dX9_need_30 rfl 0 rfl ?_
    refine r_aload_n (pc' := 32) C dX9_need_31 rfl 1 rfl ?_
    refine r_bipush (pc' := 34) C dX9_need_32 rfl kb_36 ?_
    obtain ⟨q9, h⟩ := ck h
    refine r_iald (pc' := 35) C hk1 (vin q9) dX9_need_34 rfl ?_
    obtain ⟨r10, e11, h⟩ := bd h
    refine r_cV1 (pc' := 38) C (X9_windOn_ok  e11) mlX9_261 ceX9_windOn cvX9_windOn sh_149 rfl rfl rfl (Nat.le_of_ble_eq_true rfl) rfl (Nat.le_of_ble_eq_true rfl) dX9_need_35 rfl (kk := ?_)
    obtain ⟨q12, h⟩ := ck h
    obtain ⟨σ13, e14, h⟩ := bs h
    refine r_iast (pc' := 39) (σ1 := σ13) C sh_160 (vin q12) dX9_need_38 rfl e14 ?_
    refine r_aload_n (pc' := 40) C dX9_need_39 rfl 0 rfl ?_
    refine r_getR (pc' := 43) C flX9_55 sh_149 rfl dX9_need_40 rfl ?_
    refine r_iconst (pc' := 44) C dX9_need_43 rfl kc_2 ?_
    refine r_aload_n (pc' := 45) C dX9_need_44 rfl 1 rfl ?_
    refine r_bipush (pc' := 47) C dX9_need_45 rfl kb_24 ?_
    refine r_iload_n (pc' := 48) C dX9_need_47 rfl 2 rfl ?_
    refine r_iadd (pc' := 49) C dX9_need_48 rfl ?_
    obtain ⟨q15, h⟩ := ck h
    refine r_iald (pc' := 50) C hk1 (vin q15) dX9_need_49 rfl ?_
    obtain ⟨r16, e17, h⟩ := bd h
    refine r_cS1 (pc' := 53) C (J6_bitCount_0f7a4_ok  e17) mlX9_135 ceJ6_bitCount_0f7a4 csJ6_bitCount_0f7a4 rfl (Nat.le_of_ble_eq_true rfl) rfl (Nat.le_of_ble_eq_true rfl) dX9_need_50 rfl (kk := ?_)
    obtain ⟨q18, h⟩ := ck h
    obtain ⟨σ19, e20, h⟩ := bs h
    refine r_iast (pc' := 54) (σ1 := σ19) C sh_160 (vin q18) dX9_need_53 rfl e20 ?_
    refine r_aload_n (pc' := 55) C dX9_need_54 rfl 0 rfl ?_
    refine r_getR (pc' := 58) C flX9_55 sh_149 rfl dX9_need_55 rfl ?_
    refine r_iconst (pc' := 59) C dX9_need_58 rfl kc_3 ?_
    refine r_aload_n (pc' := 60) C dX9_need_59 rfl 1 rfl ?_
    refine r_iload_n (pc' := 61) C dX9_need_60 rfl 2 rfl ?_
    obtain ⟨q21, h⟩ := ck h
    refine r_iald (pc' := 62) C hk1 (vin q21) dX9_need_61 rfl ?_
    obtain ⟨q22, h⟩ := ck h
    obtain ⟨σ23, e24, h⟩ := bs h
    refine r_iast (pc' := 63) (σ1 := σ23) C sh_160 (vin q22) dX9_need_62 rfl e24 ?_
    refine r_aload_n (pc' := 64) C dX9_need_63 rfl 0 rfl ?_
    refine r_getR (pc' := 67) C flX9_55 sh_149 rfl dX9_need_64 rfl ?_
    refine r_iconst (pc' := 68) C dX9_need_67 rfl kc_4 ?_
    refine r_aload_n (pc' := 69) C dX9_need_68 rfl 1 rfl ?_
    refine r_bipush (pc' := 71) C dX9_need_69 rfl kb_8 ?_
    refine r_iload_n (pc' := 72) C dX9_need_71 rfl 2 rfl ?_
    refine r_iadd (pc' := 73) C dX9_need_72 rfl ?_
    obtain ⟨q25, h⟩ := ck h
    refine r_iald (pc' := 74) C hk1 (vin q25) dX9_need_73 rfl ?_
    obtain ⟨q26, h⟩ := ck h
    obtain ⟨σ27, e28, h⟩ := bs h
    refine r_iast (pc' := 75) (σ1 := σ27) C sh_160 (vin q26) dX9_need_74 rfl e28 ?_
    refine r_aload_n (pc' := 76) C dX9_need_75 rfl 0 rfl ?_
    refine r_getR (pc' := 79) C flX9_55 sh_149 rfl dX9_need_76 rfl ?_
    refine r_iconst (pc' := 80) C dX9_need_79 rfl kc_5 ?_
    refine r_aload_n (pc' := 81) C dX9_need_80 rfl 1 rfl ?_
    refine r_bipush (pc' := 83) C dX9_need_81 rfl kb_16 ?_
    refine r_iload_n (pc' := 84) C dX9_need_83 rfl 2 rfl ?_
    refine r_iadd (pc' := 85) C dX9_need_84 rfl ?_
    obtain ⟨q29, h⟩ := ck h
    refine r_iald (pc' := 86) C hk1 (vin q29) dX9_need_85 rfl ?_
    obtain ⟨q30, h⟩ := ck h
    obtain ⟨σ31, e32, h⟩ := bs h
    refine r_iast (pc' := 87) (σ1 := σ31) C sh_160 (vin q30) dX9_need_86 rfl e32 ?_
    refine r_aload_n (pc' := 88) C dX9_need_87 rfl 0 rfl ?_
    refine r_getR (pc' := 91) C flX9_55 sh_149 rfl dX9_need_88 rfl ?_
    refine r_bipush (pc' := 93) C dX9_need_91 rfl kb_6 ?_
    refine r_iload_n (pc' := 94) C dX9_need_93 rfl 2 rfl ?_
    obtain ⟨q33, h⟩ := ck h
    obtain ⟨σ34, e35, h⟩ := bs h
    refine r_iast (pc' := 95) (σ1 := σ34) C sh_160 (vin q33) dX9_need_94 rfl e35 ?_
    refine r_aload_n (pc' := 96) C dX9_need_95 rfl 0 rfl ?_
    refine r_getR (pc' := 99) C flX9_55 sh_149 rfl dX9_need_96 rfl ?_
    refine r_bipush (pc' := 101) C dX9_need_99 rfl kb_7 ?_
    refine r_aload_n (pc' := 102) C dX9_need_101 rfl 1 rfl ?_
    refine r_bipush (pc' := 104) C dX9_need_102 rfl kb_36 ?_
    obtain ⟨q36, h⟩ := ck h
    refine r_iald (pc' := 105) C hk1 (vin q36) dX9_need_104 rfl ?_
    refine r_bipush (pc' := 107) C dX9_need_105 rfl kb_7 ?_
    refine r_irem (pc' := 108) C dX9_need_107 rfl (by decide) ?_
    obtain ⟨q38, h⟩ := ck h
    obtain ⟨σ39, e40, h⟩ := bs h
    refine r_iast (pc' := 109) (σ1 := σ39) C sh_160 (vin q38) dX9_need_108 rfl e40 ?_
    refine r_iconst (pc' := 110) C dX9_need_109 rfl kc_0 ?_
    refine r_bipush (pc' := 112) C dX9_need_110 rfl kb_9 ?_
    refine r_aload_n (pc' := 113) C dX9_need_112 rfl 0 rfl ?_
    obtain ⟨r41, e42, h⟩ := bd h
    refine r_cV1 (pc' := 116) C (X9_ruled_ok  e42) mlX9_264 ceX9_ruled cvX9_ruled sh_149 rfl rfl rfl (Nat.le_of_ble_eq_true rfl) rfl (Nat.le_of_ble_eq_true rfl) dX9_need_113 rfl (kk := ?_)
    obtain ⟨r43, e44, h⟩ := bd h
    refine r_cS1 (pc' := 119) C (J9_min_7cf53_ok  e44) mlX9_150 ceJ9_min_7cf53 csJ9_min_7cf53 rfl (Nat.le_of_ble_eq_true rfl) rfl (Nat.le_of_ble_eq_true rfl) dX9_need_116 rfl (kk := ?_)
    obtain ⟨r45, e46, h⟩ := bd h
    refine r_cS1 (pc' := 122) C (J9_max_7cf53_ok  e46) mlX9_267 ceJ9_max_7cf53 csJ9_max_7cf53 rfl (Nat.le_of_ble_eq_true rfl) rfl (Nat.le_of_ble_eq_true rfl) dX9_need_119 rfl (kk := ?_)
    have h := Option.some.inj h
    subst h
    exact r_ret C rfl dX9_need_122 hE
  · rw [if_neg c4] at h
    refine r_iconst (pc' := 12) C dX9_need_11 rfl kc_0 ?_
    have h := Option.some.inj h
    subst h
    exact r_ret C rfl dX9_need_12 hE

/-! BorrowedWeightModel.bundle([II)I -/
def X9_bundle_l34 (N : Nat) (k1 : Nat) (k72 : Int32 → Int32 → Option (Int32)) (σ : Sg) : Nat → Int32 → Int32 → Int32 → Option (Int32)
  | 0, _, _, _ => none
  | n + 1, v3, v4, v5 =>
    if (gi σ 149 3) ≤ v5 then (k72 v3 v4) else ((X9_has N v3 v5 σ).bind fun r7 => (if r7 = 0 then (X9_bundle_l34 N k1 k72 σ n (v3 ||| 0) v4 (v5 + 1)) else (if inb (24 + v5) 37 = true then X9_bundle_l34 N k1 k72 σ n (v3 ||| (gi σ k1 (24 + v5).toNatClampNeg)) v4 (v5 + 1) else none)))
set_option maxRecDepth 100000 in
set_option maxHeartbeats 4000000 in
theorem X9_bundle_l34_ok {E : Ev} {k1 : Nat} (hk1 : MaAt SH0 k1) {N : Nat} {k72 : Int32 → Int32 → Option (Int32)} {σ : Sg} (hk72 : ∀ (v3 : Int32) (v4 : Int32) (r : Int32), k72 v3 v4 = some r → Gp E RX9 cX9_bundle (some .int) 6 1 SH0 σ (some (.int r)) σ 72 [(0, .ref 149), (1, .ref k1), (3, .int v3), (4, .int v4)] []) : ∀ (n : Nat) (v3 : Int32) (v4 : Int32) (v5 : Int32) (r : Int32), X9_bundle_l34 N k1 k72 σ n v3 v4 v5 = some r → Gp E RX9 cX9_bundle (some .int) 6 1 SH0 σ (some (.int r)) σ 34 [(0, .ref 149), (1, .ref k1), (3, .int v3), (4, .int v4), (5, .int v5)] [] := by
  intro n
  induction n with
  | zero => intro v3 v4 v5 r h; cases h
  | succ n ih =>
    intro v3 v4 v5 r h Z C hE
    unfold X9_bundle_l34 at h
    refine r_iload (pc' := 36) C dX9_bundle_34 rfl 4 rfl ?_
    refine r_aload_n (pc' := 37) C dX9_bundle_36 rfl 0 rfl ?_
    refine r_getI (pc' := 40) C flX9_116 sh_149 rfl dX9_bundle_37 rfl ?_
    refine r_icmp_ge (tgt := 72) (pc' := 43) C dX9_bundle_40 rfl rfl (fun c6 => ?_) (fun c6 => ?_)
    · rw [if_pos c6] at h
      refine r_sub [0, 1, 2, 3] rfl ?_
      exact hk72 _ _ _ h Z C hE
    · rw [if_neg c6] at h
      refine r_iload_n (pc' := 44) C dX9_bundle_43 rfl 2 rfl ?_
      refine r_iload_n (pc' := 45) C dX9_bundle_44 rfl 2 rfl ?_
      refine r_iload (pc' := 47) C dX9_bundle_45 rfl 4 rfl ?_
      obtain ⟨r7, e8, h⟩ := bd h
      refine r_cS1 (pc' := 50) C (X9_has_ok  e8) mlX9_127 ceX9_has csX9_has rfl (Nat.le_of_ble_eq_true rfl) rfl (Nat.le_of_ble_eq_true rfl) dX9_bundle_47 rfl (kk := ?_)
      refine r_if_eq (tgt := 63) (pc' := 53) C dX9_bundle_50 rfl rfl (fun c9 => ?_) (fun c9 => ?_)
      · rw [if_pos c9] at h
        refine r_iconst (pc' := 64) C dX9_bundle_63 rfl kc_0 ?_
        refine r_ior (pc' := 65) C dX9_bundle_64 rfl ?_
        refine r_istore_n (pc' := 66) (lv2 := [(3, .int (v3 ||| 0)), (0, .ref 149), (1, .ref k1), (4, .int v4), (5, .int v5)]) C dX9_bundle_65 rfl rfl (Nat.le_of_ble_eq_true rfl) rfl ?_
        refine r_iinc (pc' := 69) (v := v5 + 1) (lv2 := [(5, .int (v5 + 1)), (3, .int (v3 ||| 0)), (0, .ref 149), (1, .ref k1), (4, .int v4)]) C dX9_bundle_66 rfl 4 rfl rfl (Nat.le_of_ble_eq_true rfl) rfl ?_
        refine r_goto (tgt := 34) C dX9_bundle_69 rfl ?_
        refine r_sub [2, 3, 1, 4, 0] rfl ?_
        exact ih _ _ _ _ h Z C hE
      · rw [if_neg c9] at h
        refine r_aload_n (pc' := 54) C dX9_bundle_53 rfl 1 rfl ?_
        refine r_bipush (pc' := 56) C dX9_bundle_54 rfl kb_24 ?_
        refine r_iload (pc' := 58) C dX9_bundle_56 rfl 4 rfl ?_
        refine r_iadd (pc' := 59) C dX9_bundle_58 rfl ?_
        obtain ⟨q10, h⟩ := ck h
        refine r_iald (pc' := 60) C hk1 (vin q10) dX9_bundle_59 rfl ?_
        refine r_goto (tgt := 64) C dX9_bundle_60 rfl ?_
        refine r_ior (pc' := 65) C dX9_bundle_64 rfl ?_
        refine r_istore_n (pc' := 66) (lv2 := [(3, .int (v3 ||| (gi σ k1 (24 + v5).toNatClampNeg))), (0, .ref 149), (1, .ref k1), (4, .int v4), (5, .int v5)]) C dX9_bundle_65 rfl rfl (Nat.le_of_ble_eq_true rfl) rfl ?_
        refine r_iinc (pc' := 69) (v := v5 + 1) (lv2 := [(5, .int (v5 + 1)), (3, .int (v3 ||| (gi σ k1 (24 + v5).toNatClampNeg))), (0, .ref 149), (1, .ref k1), (4, .int v4)]) C dX9_bundle_66 rfl 4 rfl rfl (Nat.le_of_ble_eq_true rfl) rfl ?_
        refine r_goto (tgt := 34) C dX9_bundle_69 rfl ?_
        refine r_sub [2, 3, 1, 4, 0] rfl ?_
        exact ih _ _ _ _ h Z C hE
def X9_bundle_j72 (N : Nat) (k1 : Nat) (kr : Int32 → Int32 → Option (Int32)) (v3 : Int32) (v4 : Int32) (σ : Sg) : Option (Int32) :=
  kr v3 (v4 + 1)
set_option maxRecDepth 100000 in
set_option maxHeartbeats 4000000 in
theorem X9_bundle_j72_ok {E : Ev} {k1 : Nat} (hk1 : MaAt SH0 k1) {N : Nat} {kr : Int32 → Int32 → Option (Int32)} {σ : Sg}  (hkr : ∀ (v3 : Int32) (v4 : Int32) (r : Int32), kr v3 v4 = some r → Gp E RX9 cX9_bundle (some .int) 6 1 SH0 σ (some (.int r)) σ 22 [(0, .ref 149), (1, .ref k1), (3, .int v3), (4, .int v4)] []) {v3 : Int32} {v4 : Int32} {r : Int32} (h : X9_bundle_j72 N k1 kr v3 v4 σ = some r) : Gp E RX9 cX9_bundle (some .int) 6 1 SH0 σ (some (.int r)) σ 72 [(0, .ref 149), (1, .ref k1), (3, .int v3), (4, .int v4)] [] := by
  intro Z C hE
  unfold X9_bundle_j72 at h
  refine r_iinc (pc' := 75) (v := v4 + 1) (lv2 := [(4, .int (v4 + 1)), (0, .ref 149), (1, .ref k1), (3, .int v3)]) C dX9_bundle_72 rfl 3 rfl rfl (Nat.le_of_ble_eq_true rfl) rfl ?_
  refine r_goto (tgt := 22) C dX9_bundle_75 rfl ?_
  refine r_sub [1, 2, 3, 0] rfl ?_
  exact hkr _ _ _ h Z C hE
def X9_bundle_l22 (N : Nat) (k1 : Nat)  (σ : Sg) : Nat → Int32 → Int32 → Option (Int32)
  | 0, _, _ => none
  | n + 1, v3, v4 =>
    if (gi σ 149 3) ≤ v4 then (some v3) else (X9_bundle_l34 N k1 (fun v3 v4 => X9_bundle_j72 N k1 (fun v3 v4 => X9_bundle_l22 N k1 σ n v3 v4) v3 v4 σ) σ N v3 v4 0)
set_option maxRecDepth 100000 in
set_option maxHeartbeats 4000000 in
theorem X9_bundle_l22_ok {E : Ev} {k1 : Nat} (hk1 : MaAt SH0 k1) {N : Nat}  {σ : Sg}  : ∀ (n : Nat) (v3 : Int32) (v4 : Int32) (r : Int32), X9_bundle_l22 N k1 σ n v3 v4 = some r → Gp E RX9 cX9_bundle (some .int) 6 1 SH0 σ (some (.int r)) σ 22 [(0, .ref 149), (1, .ref k1), (3, .int v3), (4, .int v4)] [] := by
  intro n
  induction n with
  | zero => intro v3 v4 r h; cases h
  | succ n ih =>
    intro v3 v4 r h Z C hE
    unfold X9_bundle_l22 at h
    refine r_iload (pc' := 24) C dX9_bundle_22 rfl 3 rfl ?_
    refine r_aload_n (pc' := 25) C dX9_bundle_24 rfl 0 rfl ?_
    refine r_getI (pc' := 28) C flX9_116 sh_149 rfl dX9_bundle_25 rfl ?_
    refine r_icmp_ge (tgt := 78) (pc' := 31) C dX9_bundle_28 rfl rfl (fun c5 => ?_) (fun c5 => ?_)
    · rw [if_pos c5] at h
      refine r_iload_n (pc' := 79) C dX9_bundle_78 rfl 2 rfl ?_
      have h := Option.some.inj h
      subst h
      exact r_ret C rfl dX9_bundle_79 hE
    · rw [if_neg c5] at h
      refine r_iconst (pc' := 32) C dX9_bundle_31 rfl kc_0 ?_
      refine r_istore (pc' := 34) (lv2 := [(5, .int 0), (0, .ref 149), (1, .ref k1), (3, .int v3), (4, .int v4)]) C dX9_bundle_32 rfl (Nat.le_of_ble_eq_true rfl) rfl ?_
      refine r_sub [1, 2, 3, 4, 0] rfl ?_
      exact X9_bundle_l34_ok hk1 (fun _ _ _ h Z C hE => by exact X9_bundle_j72_ok hk1 ih h Z C hE) N _ _ _ _ h Z C hE
def X9_bundle (N : Nat) (k1 : Nat) (v2 : Int32) (σ : Sg) : Option (Int32) :=
  if inb 32 37 = true then (X9_has N (gi σ k1 (32 : Int32).toNatClampNeg) v2 σ).bind fun r2 => (if r2 = 0 then (X9_bundle_l22 N k1 σ N (1 <<< (v2 &&& 31)) 0) else (X9_bundle_l22 N k1 σ N 0 0)) else none
set_option maxRecDepth 100000 in
set_option maxHeartbeats 4000000 in
theorem X9_bundle_ok {E : Ev} {k1 : Nat} (hk1 : MaAt SH0 k1) {N : Nat} {v2 : Int32} {σ : Sg} {r : Int32} (h : X9_bundle N k1 v2 σ = some r) : Cm E 1 yX9_bundle cX9_bundle 6 (some .int) [.ref 149, .ref k1, .int v2] SH0 SH0 σ σ (some (.int r)) 0 0 := by
  refine Cm.intro (by decide +kernel) (Nat.le_of_ble_eq_true rfl) (fun _ h => by obtain ⟨_, _, _, _, _, _, h⟩ := h; exact h) (fun Z C hE => ?_)
  show Wm E Z 0 0 SH0 σ 0 [(0, .ref 149), (1, .ref k1), (2, .int v2)] []
  unfold X9_bundle at h
  refine r_aload_n (pc' := 1) C dX9_bundle_0 rfl 1 rfl ?_
  refine r_bipush (pc' := 3) C dX9_bundle_1 rfl kb_32 ?_
  obtain ⟨q1, h⟩ := ck h
  refine r_iald (pc' := 4) C hk1 (vin q1) dX9_bundle_3 rfl ?_
  refine r_iload_n (pc' := 5) C dX9_bundle_4 rfl 2 rfl ?_
  obtain ⟨r2, e3, h⟩ := bd h
  refine r_cS1 (pc' := 8) C (X9_has_ok  e3) mlX9_127 ceX9_has csX9_has rfl (Nat.le_of_ble_eq_true rfl) rfl (Nat.le_of_ble_eq_true rfl) dX9_bundle_5 rfl (kk := ?_)
  refine r_if_eq (tgt := 15) (pc' := 11) C dX9_bundle_8 rfl rfl (fun c4 => ?_) (fun c4 => ?_)
  · rw [if_pos c4] at h
    refine r_iconst (pc' := 16) C dX9_bundle_15 rfl kc_1 ?_
    refine r_iload_n (pc' := 17) C dX9_bundle_16 rfl 2 rfl ?_
    refine r_ishl (pc' := 18) C dX9_bundle_17 rfl ?_
    refine r_istore_n (pc' := 19) (lv2 := [(3, .int (1 <<< (v2 &&& 31))), (0, .ref 149), (1, .ref k1), (2, .int v2)]) C dX9_bundle_18 rfl rfl (Nat.le_of_ble_eq_true rfl) rfl ?_
    refine r_iconst (pc' := 20) C dX9_bundle_19 rfl kc_0 ?_
    refine r_istore (pc' := 22) (lv2 := [(4, .int 0), (3, .int (1 <<< (v2 &&& 31))), (0, .ref 149), (1, .ref k1), (2, .int v2)]) C dX9_bundle_20 rfl (Nat.le_of_ble_eq_true rfl) rfl ?_
    refine r_sub [2, 3, 1, 0] rfl ?_
    exact X9_bundle_l22_ok hk1 N _ _ _ h Z C hE
  · rw [if_neg c4] at h
    refine r_iconst (pc' := 12) C dX9_bundle_11 rfl kc_0 ?_
    refine r_goto (tgt := 18) C dX9_bundle_12 rfl ?_
    refine r_istore_n (pc' := 19) (lv2 := [(3, .int 0), (0, .ref 149), (1, .ref k1), (2, .int v2)]) C dX9_bundle_18 rfl rfl (Nat.le_of_ble_eq_true rfl) rfl ?_
    refine r_iconst (pc' := 20) C dX9_bundle_19 rfl kc_0 ?_
    refine r_istore (pc' := 22) (lv2 := [(4, .int 0), (3, .int 0), (0, .ref 149), (1, .ref k1), (2, .int v2)]) C dX9_bundle_20 rfl (Nat.le_of_ble_eq_true rfl) rfl ?_
    refine r_sub [2, 3, 1, 0] rfl ?_
    exact X9_bundle_l22_ok hk1 N _ _ _ h Z C hE

/-! BorrowedWeightModel.thing(II)I -/
def X9_thing (N : Nat)  (v1 : Int32) (v2 : Int32) (σ : Sg) : Option (Int32 × Sg) :=
  bnS (wi σ 149 0 0) fun σ1 => (X9_isThing N v1 σ1).bind fun r3 => (if r3 = 0 then ((X9_refuse N σ1).bind fun r6 => (some (r6.1, r6.2))) else ((X9_in N v2.toInt64 0 7 σ1).bind fun r8 => (if r8 = 0 then ((X9_refuse N σ1).bind fun r33 => (some (r33.1, r33.2))) else (if v2 = 0 then (if inb v1 8 = true then some (gi σ1 151 v1.toNatClampNeg, σ1) else none) else if v2 = 1 then (if inb v1 37 = true then some (gi σ1 153 v1.toNatClampNeg, σ1) else none) else if v2 = 2 then (if inb (8 + v1) 37 = true then some (gi σ1 153 (8 + v1).toNatClampNeg, σ1) else none) else if v2 = 3 then (if inb (16 + v1) 37 = true then some (gi σ1 153 (16 + v1).toNatClampNeg, σ1) else none) else if v2 = 4 then (if inb 32 37 = true then (X9_has N (gi σ1 153 (32 : Int32).toNatClampNeg) v1 σ1).bind fun r21 => ((X9_flag N r21 σ1).bind fun r23 => (some (r23, σ1))) else none) else if v2 = 5 then ((X9_need N 153 v1 σ1).bind fun r26 => (some (r26.1, r26.2))) else if v2 = 6 then (if inb (24 + v1) 37 = true then some (gi σ1 153 (24 + v1).toNatClampNeg, σ1) else none) else ((X9_bundle N 153 v1 σ1).bind fun r30 => (some (r30, σ1)))))))
set_option maxRecDepth 100000 in
set_option maxHeartbeats 4000000 in
theorem X9_thing_ok {E : Ev}  {N : Nat} {v1 : Int32} {v2 : Int32} {σ : Sg} {r : Int32 × Sg} (h : X9_thing N  v1 v2 σ = some r) : Cm E 4 yX9_thing cX9_thing 3 (some .int) [.ref 149, .int v1, .int v2] SH0 SH0 σ r.2 (some (.int r.1)) 0 0 := by
  refine Cm.intro (by decide +kernel) (Nat.le_of_ble_eq_true rfl) (fun _ h => by obtain ⟨_, _, _, _, _, _, h⟩ := h; exact h) (fun Z C hE => ?_)
  show Wm E Z 0 0 SH0 σ 0 [(0, .ref 149), (1, .int v1), (2, .int v2)] []
  unfold X9_thing at h
  refine r_aload_n (pc' := 1) C dX9_thing_0 rfl 0 rfl ?_
  refine r_iconst (pc' := 2) C dX9_thing_1 rfl kc_0 ?_
  obtain ⟨σ1, e2, h⟩ := bs h
  refine r_putI (pc' := 5) (σ1 := σ1) C fpX9_3 sh_149 rfl rfl rfl dX9_thing_2 rfl e2 ?_
  refine r_aload_n (pc' := 6) C dX9_thing_5 rfl 0 rfl ?_
  refine r_iload_n (pc' := 7) C dX9_thing_6 rfl 1 rfl ?_
  obtain ⟨r3, e4, h⟩ := bd h
  refine r_cV1 (pc' := 10) C (X9_isThing_ok  e4) mlX9_123 ceX9_isThing cvX9_isThing sh_149 rfl rfl rfl (Nat.le_of_ble_eq_true rfl) rfl (Nat.le_of_ble_eq_true rfl) dX9_thing_7 rfl (kk := ?_)
  refine r_if_eq (tgt := 25) (pc' := 13) C dX9_thing_10 rfl rfl (fun c5 => ?_) (fun c5 => ?_)
  · rw [if_pos c5] at h
    refine r_aload_n (pc' := 26) C dX9_thing_25 rfl 0 rfl ?_
    obtain ⟨r6, e7, h⟩ := bd h
    refine r_cV1 (pc' := 29) C (X9_refuse_ok  e7) mlX9_292 ceX9_refuse cvX9_refuse sh_149 rfl rfl rfl (Nat.le_of_ble_eq_true rfl) rfl (Nat.le_of_ble_eq_true rfl) dX9_thing_26 rfl (kk := ?_)
    have h := Option.some.inj h
    subst h
    exact r_ret C rfl dX9_thing_29 hE
  · rw [if_neg c5] at h
    refine r_iload_n (pc' := 14) C dX9_thing_13 rfl 2 rfl ?_
    refine r_i2l (pc' := 15) C dX9_thing_14 rfl rfl ?_
    refine r_lconst (pc' := 16) C dX9_thing_15 rfl kl_0 ?_
    refine r_ldc2 (pc' := 19) C cnX9_290 dX9_thing_16 rfl ?_
    obtain ⟨r8, e9, h⟩ := bd h
    refine r_cS1 (pc' := 22) C (X9_in_ok  e9) mlX9_119 ceX9_in csX9_in rfl (Nat.le_of_ble_eq_true rfl) rfl (Nat.le_of_ble_eq_true rfl) dX9_thing_19 rfl (kk := ?_)
    refine r_if_ne (tgt := 30) (pc' := 25) C dX9_thing_22 rfl rfl (fun c10 => ?_) (fun c10 => ?_)
    · rw [if_neg c10] at h
      refine r_iload_n (pc' := 31) C dX9_thing_30 rfl 2 rfl ?_
      by_cases c11 : v2 = 0
      · rw [if_pos c11] at h
        refine r_tabIn (tgt := 72) C dX9_thing_31 (by rw [c11]; decide) (by rw [c11]; decide) (by rw [c11]; rfl) rfl ?_
        refine r_aload_n (pc' := 73) C dX9_thing_72 rfl 0 rfl ?_
        refine r_getR (pc' := 76) C flX9_27 sh_149 rfl dX9_thing_73 rfl ?_
        refine r_iload_n (pc' := 77) C dX9_thing_76 rfl 1 rfl ?_
        obtain ⟨q12, h⟩ := ck h
        refine r_iald (pc' := 78) C sh_151 (vin q12) dX9_thing_77 rfl ?_
        have h := Option.some.inj h
        subst h
        exact r_ret C rfl dX9_thing_78 hE
      rw [if_neg c11] at h
      by_cases c13 : v2 = 1
      · rw [if_pos c13] at h
        refine r_tabIn (tgt := 79) C dX9_thing_31 (by rw [c13]; decide) (by rw [c13]; decide) (by rw [c13]; rfl) rfl ?_
        refine r_aload_n (pc' := 80) C dX9_thing_79 rfl 0 rfl ?_
        refine r_getR (pc' := 83) C flX9_34 sh_149 rfl dX9_thing_80 rfl ?_
        refine r_iload_n (pc' := 84) C dX9_thing_83 rfl 1 rfl ?_
        obtain ⟨q14, h⟩ := ck h
        refine r_iald (pc' := 85) C sh_153 (vin q14) dX9_thing_84 rfl ?_
        have h := Option.some.inj h
        subst h
        exact r_ret C rfl dX9_thing_85 hE
      rw [if_neg c13] at h
      by_cases c15 : v2 = 2
      · rw [if_pos c15] at h
        refine r_tabIn (tgt := 86) C dX9_thing_31 (by rw [c15]; decide) (by rw [c15]; decide) (by rw [c15]; rfl) rfl ?_
        refine r_aload_n (pc' := 87) C dX9_thing_86 rfl 0 rfl ?_
        refine r_getR (pc' := 90) C flX9_34 sh_149 rfl dX9_thing_87 rfl ?_
        refine r_bipush (pc' := 92) C dX9_thing_90 rfl kb_8 ?_
        refine r_iload_n (pc' := 93) C dX9_thing_92 rfl 1 rfl ?_
        refine r_iadd (pc' := 94) C dX9_thing_93 rfl ?_
        obtain ⟨q16, h⟩ := ck h
        refine r_iald (pc' := 95) C sh_153 (vin q16) dX9_thing_94 rfl ?_
        have h := Option.some.inj h
        subst h
        exact r_ret C rfl dX9_thing_95 hE
      rw [if_neg c15] at h
      by_cases c17 : v2 = 3
      · rw [if_pos c17] at h
        refine r_tabIn (tgt := 96) C dX9_thing_31 (by rw [c17]; decide) (by rw [c17]; decide) (by rw [c17]; rfl) rfl ?_
        refine r_aload_n (pc' := 97) C dX9_thing_96 rfl 0 rfl ?_
        refine r_getR (pc' := 100) C flX9_34 sh_149 rfl dX9_thing_97 rfl ?_
        refine r_bipush (pc' := 102) C dX9_thing_100 rfl kb_16 ?_
        refine r_iload_n (pc' := 103) C dX9_thing_102 rfl 1 rfl ?_
        refine r_iadd (pc' := 104) C dX9_thing_103 rfl ?_
        obtain ⟨q18, h⟩ := ck h
        refine r_iald (pc' := 105) C sh_153 (vin q18) dX9_thing_104 rfl ?_
        have h := Option.some.inj h
        subst h
        exact r_ret C rfl dX9_thing_105 hE
      rw [if_neg c17] at h
      by_cases c19 : v2 = 4
      · rw [if_pos c19] at h
        refine r_tabIn (tgt := 106) C dX9_thing_31 (by rw [c19]; decide) (by rw [c19]; decide) (by rw [c19]; rfl) rfl ?_
        refine r_aload_n (pc' := 107) C dX9_thing_106 rfl 0 rfl ?_
        refine r_getR (pc' := 110) C flX9_34 sh_149 rfl dX9_thing_107 rfl ?_
        refine r_bipush (pc' := 112) C dX9_thing_110 rfl kb_32 ?_
        obtain ⟨q20, h⟩ := ck h
        refine r_iald (pc' := 113) C sh_153 (vin q20) dX9_thing_112 rfl ?_
        refine r_iload_n (pc' := 114) C dX9_thing_113 rfl 1 rfl ?_
        obtain ⟨r21, e22, h⟩ := bd h
        refine r_cS1 (pc' := 117) C (X9_has_ok  e22) mlX9_127 ceX9_has csX9_has rfl (Nat.le_of_ble_eq_true rfl) rfl (Nat.le_of_ble_eq_true rfl) dX9_thing_114 rfl (kk := ?_)
        obtain ⟨r23, e24, h⟩ := bd h
        refine r_cS1 (pc' := 120) C (X9_flag_ok  e24) mlX9_159 ceX9_flag csX9_flag rfl (Nat.le_of_ble_eq_true rfl) rfl (Nat.le_of_ble_eq_true rfl) dX9_thing_117 rfl (kk := ?_)
        have h := Option.some.inj h
        subst h
        exact r_ret C rfl dX9_thing_120 hE
      rw [if_neg c19] at h
      by_cases c25 : v2 = 5
      · rw [if_pos c25] at h
        refine r_tabIn (tgt := 121) C dX9_thing_31 (by rw [c25]; decide) (by rw [c25]; decide) (by rw [c25]; rfl) rfl ?_
        refine r_aload_n (pc' := 122) C dX9_thing_121 rfl 0 rfl ?_
        refine r_aload_n (pc' := 123) C dX9_thing_122 rfl 0 rfl ?_
        refine r_getR (pc' := 126) C flX9_34 sh_149 rfl dX9_thing_123 rfl ?_
        refine r_iload_n (pc' := 127) C dX9_thing_126 rfl 1 rfl ?_
        obtain ⟨r26, e27, h⟩ := bd h
        refine r_cV1 (pc' := 130) C (X9_need_ok mac_153 e27) mlX9_270 ceX9_need cvX9_need sh_149 rfl rfl rfl (Nat.le_of_ble_eq_true rfl) rfl (Nat.le_of_ble_eq_true rfl) dX9_thing_127 rfl (kk := ?_)
        have h := Option.some.inj h
        subst h
        exact r_ret C rfl dX9_thing_130 hE
      rw [if_neg c25] at h
      by_cases c28 : v2 = 6
      · rw [if_pos c28] at h
        refine r_tabIn (tgt := 131) C dX9_thing_31 (by rw [c28]; decide) (by rw [c28]; decide) (by rw [c28]; rfl) rfl ?_
        refine r_aload_n (pc' := 132) C dX9_thing_131 rfl 0 rfl ?_
        refine r_getR (pc' := 135) C flX9_34 sh_149 rfl dX9_thing_132 rfl ?_
        refine r_bipush (pc' := 137) C dX9_thing_135 rfl kb_24 ?_
        refine r_iload_n (pc' := 138) C dX9_thing_137 rfl 1 rfl ?_
        refine r_iadd (pc' := 139) C dX9_thing_138 rfl ?_
        obtain ⟨q29, h⟩ := ck h
        refine r_iald (pc' := 140) C sh_153 (vin q29) dX9_thing_139 rfl ?_
        have h := Option.some.inj h
        subst h
        exact r_ret C rfl dX9_thing_140 hE
      rw [if_neg c28] at h
      have o32 : v2.toInt < 0 ∨ 6 < v2.toInt := by
        refine tab_out (fun k h1 h2 => ?_) (by decide) (by decide)
        have hk : k = 0 ∨ k = 1 ∨ k = 2 ∨ k = 3 ∨ k = 4 ∨ k = 5 ∨ k = 6 := by omega
        rcases hk with rfl | rfl | rfl | rfl | rfl | rfl | rfl
        · exact c11
        · exact c13
        · exact c15
        · exact c17
        · exact c19
        · exact c25
        · exact c28
      refine r_tabOut (tgt := 141) C dX9_thing_31 o32 rfl ?_
      refine r_aload_n (pc' := 142) C dX9_thing_141 rfl 0 rfl ?_
      refine r_aload_n (pc' := 143) C dX9_thing_142 rfl 0 rfl ?_
      refine r_getR (pc' := 146) C flX9_34 sh_149 rfl dX9_thing_143 rfl ?_
      refine r_iload_n (pc' := 147) C dX9_thing_146 rfl 1 rfl ?_
      obtain ⟨r30, e31, h⟩ := bd h
      refine r_cV1 (pc' := 150) C (X9_bundle_ok mac_153 e31) mlX9_281 ceX9_bundle cvX9_bundle sh_149 rfl rfl rfl (Nat.le_of_ble_eq_true rfl) rfl (Nat.le_of_ble_eq_true rfl) dX9_thing_147 rfl (kk := ?_)
      have h := Option.some.inj h
      subst h
      exact r_ret C rfl dX9_thing_150 hE
    · rw [if_pos c10] at h
      refine r_aload_n (pc' := 26) C dX9_thing_25 rfl 0 rfl ?_
      obtain ⟨r33, e34, h⟩ := bd h
      refine r_cV1 (pc' := 29) C (X9_refuse_ok  e34) mlX9_292 ceX9_refuse cvX9_refuse sh_149 rfl rfl rfl (Nat.le_of_ble_eq_true rfl) rfl (Nat.le_of_ble_eq_true rfl) dX9_thing_26 rfl (kk := ?_)
      have h := Option.some.inj h
      subst h
      exact r_ret C rfl dX9_thing_29 hE

/-! BorrowedWeightModel.sheet(IIII)I -/
def X9_sheet_j112 (N : Nat)  (kr : Int32 → Int32 → Int32 → Int32 → Int32 → Int32 → Sg → Option (Int32 × Sg)) (v1 : Int32) (v2 : Int32) (v4 : Int32) (v5 : Int32) (v6 : Int32) (v7 : Int32) (s0 : Int32) (s1 : Int32) (σ : Sg) : Option (Int32 × Sg) :=
  if inb s1 8 = true then bnS (wi σ 151 s1.toNatClampNeg s0) fun σ13 => if inb v7 8 = true then kr v1 v2 v4 (v5 + (gi σ13 151 v7.toNatClampNeg)) (v6 + v4) (v7 + 1) σ13 else none else none
set_option maxRecDepth 100000 in
set_option maxHeartbeats 4000000 in
theorem X9_sheet_j112_ok {E : Ev}  {N : Nat} {kr : Int32 → Int32 → Int32 → Int32 → Int32 → Int32 → Sg → Option (Int32 × Sg)}  (hkr : ∀ (v1 : Int32) (v2 : Int32) (v4 : Int32) (v5 : Int32) (v6 : Int32) (v7 : Int32) (σ : Sg) (r : Int32 × Sg), kr v1 v2 v4 v5 v6 v7 σ = some r → Gp E RX9 cX9_sheet (some .int) 9 1 SH0 r.2 (some (.int r.1)) σ 46 [(0, .ref 149), (1, .int v1), (2, .int v2), (4, .int v4), (5, .int v5), (6, .int v6), (7, .int v7)] []) {v1 : Int32} {v2 : Int32} {v4 : Int32} {v5 : Int32} {v6 : Int32} {v7 : Int32} {s0 : Int32} {s1 : Int32} {σ : Sg} {r : Int32 × Sg} (h : X9_sheet_j112 N  kr v1 v2 v4 v5 v6 v7 s0 s1 σ = some r) : Gp E RX9 cX9_sheet (some .int) 9 1 SH0 r.2 (some (.int r.1)) σ 112 [(0, .ref 149), (1, .int v1), (2, .int v2), (4, .int v4), (5, .int v5), (6, .int v6), (7, .int v7)] [.int s0, .int s1, .ref 151] := by
  intro Z C hE
  unfold X9_sheet_j112 at h
  obtain ⟨q12, h⟩ := ck h
  obtain ⟨σ13, e14, h⟩ := bs h
  refine r_iast (pc' := 113) (σ1 := σ13) C sh_151 (vin q12) dX9_sheet_112 rfl e14 ?_
  refine r_iload (pc' := 115) C dX9_sheet_113 rfl 4 rfl ?_
  refine r_aload_n (pc' := 116) C dX9_sheet_115 rfl 0 rfl ?_
  refine r_getR (pc' := 119) C flX9_27 sh_149 rfl dX9_sheet_116 rfl ?_
  refine r_iload (pc' := 121) C dX9_sheet_119 rfl 6 rfl ?_
  obtain ⟨q15, h⟩ := ck h
  refine r_iald (pc' := 122) C sh_151 (vin q15) dX9_sheet_121 rfl ?_
  refine r_iadd (pc' := 123) C dX9_sheet_122 rfl ?_
  refine r_istore (pc' := 125) (lv2 := [(5, .int (v5 + (gi σ13 151 v7.toNatClampNeg))), (0, .ref 149), (1, .int v1), (2, .int v2), (4, .int v4), (6, .int v6), (7, .int v7)]) C dX9_sheet_123 rfl (Nat.le_of_ble_eq_true rfl) rfl ?_
  refine r_iload (pc' := 127) C dX9_sheet_125 rfl 5 rfl ?_
  refine r_iload (pc' := 129) C dX9_sheet_127 rfl 4 rfl ?_
  refine r_iadd (pc' := 130) C dX9_sheet_129 rfl ?_
  refine r_istore (pc' := 132) (lv2 := [(6, .int (v6 + v4)), (5, .int (v5 + (gi σ13 151 v7.toNatClampNeg))), (0, .ref 149), (1, .int v1), (2, .int v2), (4, .int v4), (7, .int v7)]) C dX9_sheet_130 rfl (Nat.le_of_ble_eq_true rfl) rfl ?_
  refine r_iinc (pc' := 135) (v := v7 + 1) (lv2 := [(7, .int (v7 + 1)), (6, .int (v6 + v4)), (5, .int (v5 + (gi σ13 151 v7.toNatClampNeg))), (0, .ref 149), (1, .int v1), (2, .int v2), (4, .int v4)]) C dX9_sheet_132 rfl 6 rfl rfl (Nat.le_of_ble_eq_true rfl) rfl ?_
  refine r_goto (tgt := 46) C dX9_sheet_135 rfl ?_
  refine r_sub [3, 4, 5, 6, 2, 1, 0] rfl ?_
  exact hkr _ _ _ _ _ _ _ _ h Z C hE
def X9_sheet_j78 (N : Nat)  (kr : Int32 → Int32 → Int32 → Int32 → Int32 → Int32 → Sg → Option (Int32 × Sg)) (v1 : Int32) (v2 : Int32) (v4 : Int32) (v5 : Int32) (v6 : Int32) (v7 : Int32) (s0 : Int32) (σ : Sg) : Option (Int32 × Sg) :=
  if v1 = 3 then (X9_sheet_j112 N kr v1 v2 v4 v5 v6 v7 1 v7 σ) else (if v7 < v2 then ((J9_min_7cf53 N 9 s0 σ).bind fun r17 => ((J9_max_7cf53 N 1 r17 σ).bind fun r19 => (X9_sheet_j112 N kr v1 v2 v4 v5 v6 v7 r19 v7 σ))) else (X9_sheet_j112 N kr v1 v2 v4 v5 v6 v7 1 v7 σ))
set_option maxRecDepth 100000 in
set_option maxHeartbeats 4000000 in
theorem X9_sheet_j78_ok {E : Ev}  {N : Nat} {kr : Int32 → Int32 → Int32 → Int32 → Int32 → Int32 → Sg → Option (Int32 × Sg)}  (hkr : ∀ (v1 : Int32) (v2 : Int32) (v4 : Int32) (v5 : Int32) (v6 : Int32) (v7 : Int32) (σ : Sg) (r : Int32 × Sg), kr v1 v2 v4 v5 v6 v7 σ = some r → Gp E RX9 cX9_sheet (some .int) 9 1 SH0 r.2 (some (.int r.1)) σ 46 [(0, .ref 149), (1, .int v1), (2, .int v2), (4, .int v4), (5, .int v5), (6, .int v6), (7, .int v7)] []) {v1 : Int32} {v2 : Int32} {v4 : Int32} {v5 : Int32} {v6 : Int32} {v7 : Int32} {s0 : Int32} {σ : Sg} {r : Int32 × Sg} (h : X9_sheet_j78 N  kr v1 v2 v4 v5 v6 v7 s0 σ = some r) : Gp E RX9 cX9_sheet (some .int) 9 1 SH0 r.2 (some (.int r.1)) σ 78 [(0, .ref 149), (1, .int v1), (2, .int v2), (4, .int v4), (5, .int v5), (6, .int v6), (7, .int v7)] [.int s0] := by
  intro Z C hE
  unfold X9_sheet_j78 at h
  refine r_istore (pc' := 80) (lv2 := [(8, .int s0), (0, .ref 149), (1, .int v1), (2, .int v2), (4, .int v4), (5, .int v5), (6, .int v6), (7, .int v7)]) C dX9_sheet_78 rfl (Nat.le_of_ble_eq_true rfl) rfl ?_
  refine r_aload_n (pc' := 81) C dX9_sheet_80 rfl 1 rfl ?_
  refine r_getR (pc' := 84) C flX9_27 sh_149 rfl dX9_sheet_81 rfl ?_
  refine r_iload (pc' := 86) C dX9_sheet_84 rfl 7 rfl ?_
  refine r_iload_n (pc' := 87) C dX9_sheet_86 rfl 2 rfl ?_
  refine r_iconst (pc' := 88) C dX9_sheet_87 rfl kc_3 ?_
  refine r_icmp_eq (tgt := 97) (pc' := 91) C dX9_sheet_88 rfl rfl (fun c11 => ?_) (fun c11 => ?_)
  · rw [if_pos c11] at h
    refine r_iconst (pc' := 98) C dX9_sheet_97 rfl kc_1 ?_
    refine r_goto (tgt := 112) C dX9_sheet_98 rfl ?_
    refine r_sub [1, 2, 3, 4, 5, 6, 7] rfl ?_
    exact X9_sheet_j112_ok  hkr h Z C hE
  · rw [if_neg c11] at h
    refine r_iload (pc' := 93) C dX9_sheet_91 rfl 7 rfl ?_
    refine r_iload_n (pc' := 94) C dX9_sheet_93 rfl 3 rfl ?_
    refine r_icmp_lt (tgt := 101) (pc' := 97) C dX9_sheet_94 rfl rfl (fun c16 => ?_) (fun c16 => ?_)
    · rw [if_pos c16] at h
      refine r_iconst (pc' := 102) C dX9_sheet_101 rfl kc_1 ?_
      refine r_bipush (pc' := 104) C dX9_sheet_102 rfl kb_9 ?_
      refine r_iload (pc' := 106) C dX9_sheet_104 rfl 0 rfl ?_
      obtain ⟨r17, e18, h⟩ := bd h
      refine r_cS1 (pc' := 109) C (J9_min_7cf53_ok  e18) mlX9_150 ceJ9_min_7cf53 csJ9_min_7cf53 rfl (Nat.le_of_ble_eq_true rfl) rfl (Nat.le_of_ble_eq_true rfl) dX9_sheet_106 rfl (kk := ?_)
      obtain ⟨r19, e20, h⟩ := bd h
      refine r_cS1 (pc' := 112) C (J9_max_7cf53_ok  e20) mlX9_267 ceJ9_max_7cf53 csJ9_max_7cf53 rfl (Nat.le_of_ble_eq_true rfl) rfl (Nat.le_of_ble_eq_true rfl) dX9_sheet_109 rfl (kk := ?_)
      refine r_sub [1, 2, 3, 4, 5, 6, 7] rfl ?_
      exact X9_sheet_j112_ok  hkr h Z C hE
    · rw [if_neg c16] at h
      refine r_iconst (pc' := 98) C dX9_sheet_97 rfl kc_1 ?_
      refine r_goto (tgt := 112) C dX9_sheet_98 rfl ?_
      refine r_sub [1, 2, 3, 4, 5, 6, 7] rfl ?_
      exact X9_sheet_j112_ok  hkr h Z C hE
def X9_sheet_l46 (N : Nat)  (k138 : Int32 → Int32 → Sg → Option (Int32 × Sg))  : Nat → Int32 → Int32 → Int32 → Int32 → Int32 → Int32 → Sg → Option (Int32 × Sg)
  | 0, _, _, _, _, _, _, _ => none
  | n + 1, v1, v2, v4, v5, v6, v7, σ =>
    if (gi σ 149 3) ≤ v7 then (k138 v1 v5 σ) else (if v1 = 0 then (X9_sheet_j78 N (fun v1 v2 v4 v5 v6 v7 σ => X9_sheet_l46 N k138 n v1 v2 v4 v5 v6 v7 σ) v1 v2 v4 v5 v6 v7 (i2b_ v6) σ) else (if v1 = 1 then (X9_sheet_j78 N (fun v1 v2 v4 v5 v6 v7 σ => X9_sheet_l46 N k138 n v1 v2 v4 v5 v6 v7 σ) v1 v2 v4 v5 v6 v7 (i2s_ v6) σ) else (X9_sheet_j78 N (fun v1 v2 v4 v5 v6 v7 σ => X9_sheet_l46 N k138 n v1 v2 v4 v5 v6 v7 σ) v1 v2 v4 v5 v6 v7 v6 σ)))
set_option maxRecDepth 100000 in
set_option maxHeartbeats 4000000 in
theorem X9_sheet_l46_ok {E : Ev}  {N : Nat} {k138 : Int32 → Int32 → Sg → Option (Int32 × Sg)}  (hk138 : ∀ (v1 : Int32) (v5 : Int32) (σ : Sg) (r : Int32 × Sg), k138 v1 v5 σ = some r → Gp E RX9 cX9_sheet (some .int) 9 1 SH0 r.2 (some (.int r.1)) σ 138 [(1, .int v1), (5, .int v5)] []) : ∀ (n : Nat) (v1 : Int32) (v2 : Int32) (v4 : Int32) (v5 : Int32) (v6 : Int32) (v7 : Int32) (σ : Sg) (r : Int32 × Sg), X9_sheet_l46 N k138 n v1 v2 v4 v5 v6 v7 σ = some r → Gp E RX9 cX9_sheet (some .int) 9 1 SH0 r.2 (some (.int r.1)) σ 46 [(0, .ref 149), (1, .int v1), (2, .int v2), (4, .int v4), (5, .int v5), (6, .int v6), (7, .int v7)] [] := by
  intro n
  induction n with
  | zero => intro v1 v2 v4 v5 v6 v7 σ r h; cases h
  | succ n ih =>
    intro v1 v2 v4 v5 v6 v7 σ r h Z C hE
    unfold X9_sheet_l46 at h
    refine r_iload (pc' := 48) C dX9_sheet_46 rfl 6 rfl ?_
    refine r_aload_n (pc' := 49) C dX9_sheet_48 rfl 0 rfl ?_
    refine r_getI (pc' := 52) C flX9_116 sh_149 rfl dX9_sheet_49 rfl ?_
    refine r_icmp_ge (tgt := 138) (pc' := 55) C dX9_sheet_52 rfl rfl (fun c8 => ?_) (fun c8 => ?_)
    · rw [if_pos c8] at h
      refine r_sub [1, 4] rfl ?_
      exact hk138 _ _ _ _ h Z C hE
    · rw [if_neg c8] at h
      refine r_iload_n (pc' := 56) C dX9_sheet_55 rfl 1 rfl ?_
      refine r_if_ne (tgt := 65) (pc' := 59) C dX9_sheet_56 rfl rfl (fun c9 => ?_) (fun c9 => ?_)
      · rw [if_neg c9] at h
        refine r_iload_n (pc' := 66) C dX9_sheet_65 rfl 1 rfl ?_
        refine r_iconst (pc' := 67) C dX9_sheet_66 rfl kc_1 ?_
        refine r_icmp_ne (tgt := 76) (pc' := 70) C dX9_sheet_67 rfl rfl (fun c10 => ?_) (fun c10 => ?_)
        · rw [if_neg c10] at h
          refine r_iload (pc' := 78) C dX9_sheet_76 rfl 5 rfl ?_
          exact X9_sheet_j78_ok  ih h Z C hE
        · rw [if_pos c10] at h
          refine r_iload (pc' := 72) C dX9_sheet_70 rfl 5 rfl ?_
          refine r_i2s (pc' := 73) (v := i2s_ v6) C dX9_sheet_72 rfl rfl ?_
          refine r_goto (tgt := 78) C dX9_sheet_73 rfl ?_
          exact X9_sheet_j78_ok  ih h Z C hE
      · rw [if_pos c9] at h
        refine r_iload (pc' := 61) C dX9_sheet_59 rfl 5 rfl ?_
        refine r_i2b (pc' := 62) (v := i2b_ v6) C dX9_sheet_61 rfl rfl ?_
        refine r_goto (tgt := 78) C dX9_sheet_62 rfl ?_
        exact X9_sheet_j78_ok  ih h Z C hE
def X9_sheet_j138 (N : Nat)   (v1 : Int32) (v5 : Int32) (σ : Sg) : Option (Int32 × Sg) :=
  if v1 = 3 then (some ((-3), σ)) else (some (v5, σ))
set_option maxRecDepth 100000 in
set_option maxHeartbeats 4000000 in
theorem X9_sheet_j138_ok {E : Ev}  {N : Nat}    {v1 : Int32} {v5 : Int32} {σ : Sg} {r : Int32 × Sg} (h : X9_sheet_j138 N   v1 v5 σ = some r) : Gp E RX9 cX9_sheet (some .int) 9 1 SH0 r.2 (some (.int r.1)) σ 138 [(1, .int v1), (5, .int v5)] [] := by
  intro Z C hE
  unfold X9_sheet_j138 at h
  refine r_iload_n (pc' := 139) C dX9_sheet_138 rfl 0 rfl ?_
  refine r_iconst (pc' := 140) C dX9_sheet_139 rfl kc_3 ?_
  refine r_icmp_ne (tgt := 148) (pc' := 143) C dX9_sheet_140 rfl rfl (fun c21 => ?_) (fun c21 => ?_)
  · rw [if_neg c21] at h
    refine r_iload (pc' := 150) C dX9_sheet_148 rfl 1 rfl ?_
    have h := Option.some.inj h
    subst h
    exact r_ret C rfl dX9_sheet_150 hE
  · rw [if_pos c21] at h
    refine r_bipush (pc' := 145) C dX9_sheet_143 rfl kb_m3 ?_
    refine r_goto (tgt := 150) C dX9_sheet_145 rfl ?_
    have h := Option.some.inj h
    subst h
    exact r_ret C rfl dX9_sheet_150 hE
def X9_sheet_j37 (N : Nat)   (v1 : Int32) (v2 : Int32) (v3 : Int32) (v4 : Int32) (σ : Sg) : Option (Int32 × Sg) :=
  X9_sheet_l46 N (fun v1 v5 σ => X9_sheet_j138 N v1 v5 σ) N v1 v2 v4 0 v3 0 σ
set_option maxRecDepth 100000 in
set_option maxHeartbeats 4000000 in
theorem X9_sheet_j37_ok {E : Ev}  {N : Nat}    {v1 : Int32} {v2 : Int32} {v3 : Int32} {v4 : Int32} {σ : Sg} {r : Int32 × Sg} (h : X9_sheet_j37 N   v1 v2 v3 v4 σ = some r) : Gp E RX9 cX9_sheet (some .int) 9 1 SH0 r.2 (some (.int r.1)) σ 37 [(0, .ref 149), (1, .int v1), (2, .int v2), (3, .int v3), (4, .int v4)] [] := by
  intro Z C hE
  unfold X9_sheet_j37 at h
  refine r_iconst (pc' := 38) C dX9_sheet_37 rfl kc_0 ?_
  refine r_istore (pc' := 40) (lv2 := [(5, .int 0), (0, .ref 149), (1, .int v1), (2, .int v2), (3, .int v3), (4, .int v4)]) C dX9_sheet_38 rfl (Nat.le_of_ble_eq_true rfl) rfl ?_
  refine r_iload_n (pc' := 41) C dX9_sheet_40 rfl 4 rfl ?_
  refine r_istore (pc' := 43) (lv2 := [(6, .int v3), (5, .int 0), (0, .ref 149), (1, .int v1), (2, .int v2), (3, .int v3), (4, .int v4)]) C dX9_sheet_41 rfl (Nat.le_of_ble_eq_true rfl) rfl ?_
  refine r_iconst (pc' := 44) C dX9_sheet_43 rfl kc_0 ?_
  refine r_istore (pc' := 46) (lv2 := [(7, .int 0), (6, .int v3), (5, .int 0), (0, .ref 149), (1, .int v1), (2, .int v2), (3, .int v3), (4, .int v4)]) C dX9_sheet_44 rfl (Nat.le_of_ble_eq_true rfl) rfl ?_
  refine r_sub [3, 4, 5, 7, 2, 1, 0] rfl ?_
  exact X9_sheet_l46_ok  (fun _ _ _ _ h Z C hE => by exact X9_sheet_j138_ok  h Z C hE) N _ _ _ _ _ _ _ _ h Z C hE
def X9_sheet (N : Nat)  (v1 : Int32) (v2 : Int32) (v3 : Int32) (v4 : Int32) (σ : Sg) : Option (Int32 × Sg) :=
  bnS (wi σ 149 0 0) fun σ1 => (X9_in N v1.toInt64 0 3 σ1).bind fun r3 => (if r3 = 0 then (some ((-1), σ1)) else (if v2 ≤ 8 then (if v1 = 3 then (X9_sheet_j37 N v1 v2 v3 v4 σ1) else (if 0 ≤ v2 then (X9_sheet_j37 N v1 v2 v3 v4 σ1) else (some ((-2), σ1)))) else (some ((-1), σ1))))
set_option maxRecDepth 100000 in
set_option maxHeartbeats 4000000 in
theorem X9_sheet_ok {E : Ev}  {N : Nat} {v1 : Int32} {v2 : Int32} {v3 : Int32} {v4 : Int32} {σ : Sg} {r : Int32 × Sg} (h : X9_sheet N  v1 v2 v3 v4 σ = some r) : Cm E 1 yX9_sheet cX9_sheet 9 (some .int) [.ref 149, .int v1, .int v2, .int v3, .int v4] SH0 SH0 σ r.2 (some (.int r.1)) 0 0 := by
  refine Cm.intro (by decide +kernel) (Nat.le_of_ble_eq_true rfl) (fun _ h => by obtain ⟨_, _, _, _, _, _, h⟩ := h; exact h) (fun Z C hE => ?_)
  show Wm E Z 0 0 SH0 σ 0 [(0, .ref 149), (1, .int v1), (2, .int v2), (3, .int v3), (4, .int v4)] []
  unfold X9_sheet at h
  refine r_aload_n (pc' := 1) C dX9_sheet_0 rfl 0 rfl ?_
  refine r_iconst (pc' := 2) C dX9_sheet_1 rfl kc_0 ?_
  obtain ⟨σ1, e2, h⟩ := bs h
  refine r_putI (pc' := 5) (σ1 := σ1) C fpX9_3 sh_149 rfl rfl rfl dX9_sheet_2 rfl e2 ?_
  refine r_iload_n (pc' := 6) C dX9_sheet_5 rfl 1 rfl ?_
  refine r_i2l (pc' := 7) C dX9_sheet_6 rfl rfl ?_
  refine r_lconst (pc' := 8) C dX9_sheet_7 rfl kl_0 ?_
  refine r_ldc2 (pc' := 11) C cnX9_295 dX9_sheet_8 rfl ?_
  obtain ⟨r3, e4, h⟩ := bd h
  refine r_cS1 (pc' := 14) C (X9_in_ok  e4) mlX9_119 ceX9_in csX9_in rfl (Nat.le_of_ble_eq_true rfl) rfl (Nat.le_of_ble_eq_true rfl) dX9_sheet_11 rfl (kk := ?_)
  refine r_if_eq (tgt := 23) (pc' := 17) C dX9_sheet_14 rfl rfl (fun c5 => ?_) (fun c5 => ?_)
  · rw [if_pos c5] at h
    refine r_iconst (pc' := 24) C dX9_sheet_23 rfl kc_m1 ?_
    have h := Option.some.inj h
    subst h
    exact r_ret C rfl dX9_sheet_24 hE
  · rw [if_neg c5] at h
    refine r_iload_n (pc' := 18) C dX9_sheet_17 rfl 2 rfl ?_
    refine r_bipush (pc' := 20) C dX9_sheet_18 rfl kb_8 ?_
    refine r_icmp_le (tgt := 25) (pc' := 23) C dX9_sheet_20 rfl rfl (fun c6 => ?_) (fun c6 => ?_)
    · rw [if_pos c6] at h
      refine r_iload_n (pc' := 26) C dX9_sheet_25 rfl 1 rfl ?_
      refine r_iconst (pc' := 27) C dX9_sheet_26 rfl kc_3 ?_
      refine r_icmp_eq (tgt := 37) (pc' := 30) C dX9_sheet_27 rfl rfl (fun c7 => ?_) (fun c7 => ?_)
      · rw [if_pos c7] at h
        exact X9_sheet_j37_ok  h Z C hE
      · rw [if_neg c7] at h
        refine r_iload_n (pc' := 31) C dX9_sheet_30 rfl 2 rfl ?_
        refine r_if_ge (tgt := 37) (pc' := 34) C dX9_sheet_31 rfl rfl (fun c22 => ?_) (fun c22 => ?_)
        · rw [if_pos c22] at h
          exact X9_sheet_j37_ok  h Z C hE
        · rw [if_neg c22] at h
          refine r_bipush (pc' := 36) C dX9_sheet_34 rfl kb_m2 ?_
          have h := Option.some.inj h
          subst h
          exact r_ret C rfl dX9_sheet_36 hE
    · rw [if_neg c6] at h
      refine r_iconst (pc' := 24) C dX9_sheet_23 rfl kc_m1 ?_
      have h := Option.some.inj h
      subst h
      exact r_ret C rfl dX9_sheet_24 hE

/-! BorrowedWeightModel.undo()I -/
def X9_undo_l26 (N : Nat)    : Nat → Int32 → Sg → Option (Int32 × Sg)
  | 0, _, _ => none
  | n + 1, v1, σ =>
    if 37 ≤ v1 then (some (gi σ 149 23, σ)) else (if inb ((37 * (gi σ 149 23)) + v1) 592 = true then if inb v1 37 = true then bnS (wi σ 153 v1.toNatClampNeg (gi σ 161 ((37 * (gi σ 149 23)) + v1).toNatClampNeg)) fun σ9 => X9_undo_l26 N n (v1 + 1) σ9 else none else none)
set_option maxRecDepth 100000 in
set_option maxHeartbeats 4000000 in
theorem X9_undo_l26_ok {E : Ev}  {N : Nat}    : ∀ (n : Nat) (v1 : Int32) (σ : Sg) (r : Int32 × Sg), X9_undo_l26 N n v1 σ = some r → Gp E RX9 cX9_undo (some .int) 2 0 SH0 r.2 (some (.int r.1)) σ 26 [(0, .ref 149), (1, .int v1)] [] := by
  intro n
  induction n with
  | zero => intro v1 σ r h; cases h
  | succ n ih =>
    intro v1 σ r h Z C hE
    unfold X9_undo_l26 at h
    refine r_iload_n (pc' := 27) C dX9_undo_26 rfl 1 rfl ?_
    refine r_bipush (pc' := 29) C dX9_undo_27 rfl kb_37 ?_
    refine r_icmp_ge (tgt := 58) (pc' := 32) C dX9_undo_29 rfl rfl (fun c6 => ?_) (fun c6 => ?_)
    · rw [if_pos c6] at h
      refine r_aload_n (pc' := 59) C dX9_undo_58 rfl 0 rfl ?_
      refine r_getI (pc' := 62) C flX9_196 sh_149 rfl dX9_undo_59 rfl ?_
      have h := Option.some.inj h
      subst h
      exact r_ret C rfl dX9_undo_62 hE
    · rw [if_neg c6] at h
      refine r_aload_n (pc' := 33) C dX9_undo_32 rfl 0 rfl ?_
      refine r_getR (pc' := 36) C flX9_34 sh_149 rfl dX9_undo_33 rfl ?_
      refine r_iload_n (pc' := 37) C dX9_undo_36 rfl 1 rfl ?_
      refine r_aload_n (pc' := 38) C dX9_undo_37 rfl 0 rfl ?_
      refine r_getR (pc' := 41) C flX9_58 sh_149 rfl dX9_undo_38 rfl ?_
      refine r_bipush (pc' := 43) C dX9_undo_41 rfl kb_37 ?_
      refine r_aload_n (pc' := 44) C dX9_undo_43 rfl 0 rfl ?_
      refine r_getI (pc' := 47) C flX9_196 sh_149 rfl dX9_undo_44 rfl ?_
      refine r_imul (pc' := 48) C dX9_undo_47 rfl ?_
      refine r_iload_n (pc' := 49) C dX9_undo_48 rfl 1 rfl ?_
      refine r_iadd (pc' := 50) C dX9_undo_49 rfl ?_
      obtain ⟨q7, h⟩ := ck h
      refine r_iald (pc' := 51) C sh_161 (vin q7) dX9_undo_50 rfl ?_
      obtain ⟨q8, h⟩ := ck h
      obtain ⟨σ9, e10, h⟩ := bs h
      refine r_iast (pc' := 52) (σ1 := σ9) C sh_153 (vin q8) dX9_undo_51 rfl e10 ?_
      refine r_iinc (pc' := 55) (v := v1 + 1) (lv2 := [(1, .int (v1 + 1)), (0, .ref 149)]) C dX9_undo_52 rfl 1 rfl rfl (Nat.le_of_ble_eq_true rfl) rfl ?_
      refine r_goto (tgt := 26) C dX9_undo_55 rfl ?_
      refine r_sub [1, 0] rfl ?_
      exact ih _ _ _ h Z C hE
def X9_undo (N : Nat)   (σ : Sg) : Option (Int32 × Sg) :=
  bnS (wi σ 149 0 0) fun σ1 => if (gi σ1 149 23) = 0 then (some ((-1), σ1)) else (bnS (wi σ1 149 23 ((gi σ1 149 23) - 1)) fun σ4 => X9_undo_l26 N N 0 σ4)
set_option maxRecDepth 100000 in
set_option maxHeartbeats 4000000 in
theorem X9_undo_ok {E : Ev}  {N : Nat}  {σ : Sg} {r : Int32 × Sg} (h : X9_undo N   σ = some r) : Cm E 0 yX9_undo cX9_undo 2 (some .int) [.ref 149] SH0 SH0 σ r.2 (some (.int r.1)) 0 0 := by
  refine Cm.intro (by decide +kernel) (Nat.le_of_ble_eq_true rfl) (fun _ h => by obtain ⟨_, _, _, _, _, _, h⟩ := h; exact h) (fun Z C hE => ?_)
  show Wm E Z 0 0 SH0 σ 0 [(0, .ref 149)] []
  unfold X9_undo at h
  refine r_aload_n (pc' := 1) C dX9_undo_0 rfl 0 rfl ?_
  refine r_iconst (pc' := 2) C dX9_undo_1 rfl kc_0 ?_
  obtain ⟨σ1, e2, h⟩ := bs h
  refine r_putI (pc' := 5) (σ1 := σ1) C fpX9_3 sh_149 rfl rfl rfl dX9_undo_2 rfl e2 ?_
  refine r_aload_n (pc' := 6) C dX9_undo_5 rfl 0 rfl ?_
  refine r_getI (pc' := 9) C flX9_196 sh_149 rfl dX9_undo_6 rfl ?_
  refine r_if_ne (tgt := 14) (pc' := 12) C dX9_undo_9 rfl rfl (fun c3 => ?_) (fun c3 => ?_)
  · rw [if_neg c3] at h
    refine r_aload_n (pc' := 15) C dX9_undo_14 rfl 0 rfl ?_
    refine r_dup (pc' := 16) C dX9_undo_15 rfl rfl ?_
    refine r_getI (pc' := 19) C flX9_196 sh_149 rfl dX9_undo_16 rfl ?_
    refine r_iconst (pc' := 20) C dX9_undo_19 rfl kc_1 ?_
    refine r_isub (pc' := 21) C dX9_undo_20 rfl ?_
    obtain ⟨σ4, e5, h⟩ := bs h
    refine r_putI (pc' := 24) (σ1 := σ4) C fpX9_196 sh_149 rfl rfl rfl dX9_undo_21 rfl e5 ?_
    refine r_iconst (pc' := 25) C dX9_undo_24 rfl kc_0 ?_
    refine r_istore_n (pc' := 26) (lv2 := [(1, .int 0), (0, .ref 149)]) C dX9_undo_25 rfl rfl (Nat.le_of_ble_eq_true rfl) rfl ?_
    refine r_sub [1, 0] rfl ?_
    exact X9_undo_l26_ok  N _ _ _ h Z C hE
  · rw [if_pos c3] at h
    refine r_iconst (pc' := 13) C dX9_undo_12 rfl kc_m1 ?_
    have h := Option.some.inj h
    subst h
    exact r_ret C rfl dX9_undo_13 hE

/-! BorrowedWeightModel.sumOf([III)I -/
def X9_sumOf_l6 (N : Nat) (k1 : Nat)  (σ : Sg) : Nat → Int32 → Int32 → Int32 → Int32 → Option (Int32)
  | 0, _, _, _, _ => none
  | n + 1, v2, v3, v4, v5 =>
    if (gi σ 149 3) ≤ v5 then (some v4) else ((X9_has N v3 v5 σ).bind fun r2 => (if r2 = 0 then (X9_sumOf_l6 N k1 σ n v2 v3 (v4 + 0) (v5 + 1)) else (if inb (v2 + v5) 37 = true then X9_sumOf_l6 N k1 σ n v2 v3 (v4 + (gi σ k1 (v2 + v5).toNatClampNeg)) (v5 + 1) else none)))
set_option maxRecDepth 100000 in
set_option maxHeartbeats 4000000 in
theorem X9_sumOf_l6_ok {E : Ev} {k1 : Nat} (hk1 : MaAt SH0 k1) {N : Nat}  {σ : Sg}  : ∀ (n : Nat) (v2 : Int32) (v3 : Int32) (v4 : Int32) (v5 : Int32) (r : Int32), X9_sumOf_l6 N k1 σ n v2 v3 v4 v5 = some r → Gp E RX9 cX9_sumOf (some .int) 6 1 SH0 σ (some (.int r)) σ 6 [(0, .ref 149), (1, .ref k1), (2, .int v2), (3, .int v3), (4, .int v4), (5, .int v5)] [] := by
  intro n
  induction n with
  | zero => intro v2 v3 v4 v5 r h; cases h
  | succ n ih =>
    intro v2 v3 v4 v5 r h Z C hE
    unfold X9_sumOf_l6 at h
    refine r_iload (pc' := 8) C dX9_sumOf_6 rfl 5 rfl ?_
    refine r_aload_n (pc' := 9) C dX9_sumOf_8 rfl 0 rfl ?_
    refine r_getI (pc' := 12) C flX9_116 sh_149 rfl dX9_sumOf_9 rfl ?_
    refine r_icmp_ge (tgt := 45) (pc' := 15) C dX9_sumOf_12 rfl rfl (fun c1 => ?_) (fun c1 => ?_)
    · rw [if_pos c1] at h
      refine r_iload (pc' := 47) C dX9_sumOf_45 rfl 4 rfl ?_
      have h := Option.some.inj h
      subst h
      exact r_ret C rfl dX9_sumOf_47 hE
    · rw [if_neg c1] at h
      refine r_iload (pc' := 17) C dX9_sumOf_15 rfl 4 rfl ?_
      refine r_iload_n (pc' := 18) C dX9_sumOf_17 rfl 3 rfl ?_
      refine r_iload (pc' := 20) C dX9_sumOf_18 rfl 5 rfl ?_
      obtain ⟨r2, e3, h⟩ := bd h
      refine r_cS1 (pc' := 23) C (X9_has_ok  e3) mlX9_127 ceX9_has csX9_has rfl (Nat.le_of_ble_eq_true rfl) rfl (Nat.le_of_ble_eq_true rfl) dX9_sumOf_20 rfl (kk := ?_)
      refine r_if_eq (tgt := 35) (pc' := 26) C dX9_sumOf_23 rfl rfl (fun c4 => ?_) (fun c4 => ?_)
      · rw [if_pos c4] at h
        refine r_iconst (pc' := 36) C dX9_sumOf_35 rfl kc_0 ?_
        refine r_iadd (pc' := 37) C dX9_sumOf_36 rfl ?_
        refine r_istore (pc' := 39) (lv2 := [(4, .int (v4 + 0)), (0, .ref 149), (1, .ref k1), (2, .int v2), (3, .int v3), (5, .int v5)]) C dX9_sumOf_37 rfl (Nat.le_of_ble_eq_true rfl) rfl ?_
        refine r_iinc (pc' := 42) (v := v5 + 1) (lv2 := [(5, .int (v5 + 1)), (4, .int (v4 + 0)), (0, .ref 149), (1, .ref k1), (2, .int v2), (3, .int v3)]) C dX9_sumOf_39 rfl 5 rfl rfl (Nat.le_of_ble_eq_true rfl) rfl ?_
        refine r_goto (tgt := 6) C dX9_sumOf_42 rfl ?_
        refine r_sub [2, 3, 4, 5, 1, 0] rfl ?_
        exact ih _ _ _ _ _ h Z C hE
      · rw [if_neg c4] at h
        refine r_aload_n (pc' := 27) C dX9_sumOf_26 rfl 1 rfl ?_
        refine r_iload_n (pc' := 28) C dX9_sumOf_27 rfl 2 rfl ?_
        refine r_iload (pc' := 30) C dX9_sumOf_28 rfl 5 rfl ?_
        refine r_iadd (pc' := 31) C dX9_sumOf_30 rfl ?_
        obtain ⟨q5, h⟩ := ck h
        refine r_iald (pc' := 32) C hk1 (vin q5) dX9_sumOf_31 rfl ?_
        refine r_goto (tgt := 36) C dX9_sumOf_32 rfl ?_
        refine r_iadd (pc' := 37) C dX9_sumOf_36 rfl ?_
        refine r_istore (pc' := 39) (lv2 := [(4, .int (v4 + (gi σ k1 (v2 + v5).toNatClampNeg))), (0, .ref 149), (1, .ref k1), (2, .int v2), (3, .int v3), (5, .int v5)]) C dX9_sumOf_37 rfl (Nat.le_of_ble_eq_true rfl) rfl ?_
        refine r_iinc (pc' := 42) (v := v5 + 1) (lv2 := [(5, .int (v5 + 1)), (4, .int (v4 + (gi σ k1 (v2 + v5).toNatClampNeg))), (0, .ref 149), (1, .ref k1), (2, .int v2), (3, .int v3)]) C dX9_sumOf_39 rfl 5 rfl rfl (Nat.le_of_ble_eq_true rfl) rfl ?_
        refine r_goto (tgt := 6) C dX9_sumOf_42 rfl ?_
        refine r_sub [2, 3, 4, 5, 1, 0] rfl ?_
        exact ih _ _ _ _ _ h Z C hE
def X9_sumOf (N : Nat) (k1 : Nat) (v2 : Int32) (v3 : Int32) (σ : Sg) : Option (Int32) :=
  X9_sumOf_l6 N k1 σ N v2 v3 0 0
set_option maxRecDepth 100000 in
set_option maxHeartbeats 4000000 in
theorem X9_sumOf_ok {E : Ev} {k1 : Nat} (hk1 : MaAt SH0 k1) {N : Nat} {v2 : Int32} {v3 : Int32} {σ : Sg} {r : Int32} (h : X9_sumOf N k1 v2 v3 σ = some r) : Cm E 1 yX9_sumOf cX9_sumOf 6 (some .int) [.ref 149, .ref k1, .int v2, .int v3] SH0 SH0 σ σ (some (.int r)) 0 0 := by
  refine Cm.intro (by decide +kernel) (Nat.le_of_ble_eq_true rfl) (fun _ h => by obtain ⟨_, _, _, _, _, _, h⟩ := h; exact h) (fun Z C hE => ?_)
  show Wm E Z 0 0 SH0 σ 0 [(0, .ref 149), (1, .ref k1), (2, .int v2), (3, .int v3)] []
  unfold X9_sumOf at h
  refine r_iconst (pc' := 1) C dX9_sumOf_0 rfl kc_0 ?_
  refine r_istore (pc' := 3) (lv2 := [(4, .int 0), (0, .ref 149), (1, .ref k1), (2, .int v2), (3, .int v3)]) C dX9_sumOf_1 rfl (Nat.le_of_ble_eq_true rfl) rfl ?_
  refine r_iconst (pc' := 4) C dX9_sumOf_3 rfl kc_0 ?_
  refine r_istore (pc' := 6) (lv2 := [(5, .int 0), (4, .int 0), (0, .ref 149), (1, .ref k1), (2, .int v2), (3, .int v3)]) C dX9_sumOf_4 rfl (Nat.le_of_ble_eq_true rfl) rfl ?_
  refine r_sub [2, 3, 4, 5, 1, 0] rfl ?_
  exact X9_sumOf_l6_ok hk1 N _ _ _ _ _ h Z C hE

/-! BorrowedWeightModel.needOf([II)I -/
def X9_needOf_l5 (N : Nat) (k1 : Nat)   : Nat → Int32 → Int32 → Int32 → Sg → Option (Int32 × Sg)
  | 0, _, _, _, _ => none
  | n + 1, v2, v3, v4, σ =>
    if (gi σ 149 3) ≤ v4 then (some (v3, σ)) else ((X9_has N v2 v4 σ).bind fun r2 => (if r2 = 0 then (X9_needOf_l5 N k1 n v2 (v3 + 0) (v4 + 1) σ) else ((X9_need N k1 v4 σ).bind fun r5 => (X9_needOf_l5 N k1 n v2 (v3 + r5.1) (v4 + 1) r5.2))))
set_option maxRecDepth 100000 in
set_option maxHeartbeats 4000000 in
theorem X9_needOf_l5_ok {E : Ev} {k1 : Nat} (hk1 : MaAt SH0 k1) {N : Nat}    : ∀ (n : Nat) (v2 : Int32) (v3 : Int32) (v4 : Int32) (σ : Sg) (r : Int32 × Sg), X9_needOf_l5 N k1 n v2 v3 v4 σ = some r → Gp E RX9 cX9_needOf (some .int) 5 4 SH0 r.2 (some (.int r.1)) σ 5 [(0, .ref 149), (1, .ref k1), (2, .int v2), (3, .int v3), (4, .int v4)] [] := by
  intro n
  induction n with
  | zero => intro v2 v3 v4 σ r h; cases h
  | succ n ih =>
    intro v2 v3 v4 σ r h Z C hE
    unfold X9_needOf_l5 at h
    refine r_iload (pc' := 7) C dX9_needOf_5 rfl 4 rfl ?_
    refine r_aload_n (pc' := 8) C dX9_needOf_7 rfl 0 rfl ?_
    refine r_getI (pc' := 11) C flX9_116 sh_149 rfl dX9_needOf_8 rfl ?_
    refine r_icmp_ge (tgt := 43) (pc' := 14) C dX9_needOf_11 rfl rfl (fun c1 => ?_) (fun c1 => ?_)
    · rw [if_pos c1] at h
      refine r_iload_n (pc' := 44) C dX9_needOf_43 rfl 3 rfl ?_
      have h := Option.some.inj h
      subst h
      exact r_ret C rfl dX9_needOf_44 hE
    · rw [if_neg c1] at h
      refine r_iload_n (pc' := 15) C dX9_needOf_14 rfl 3 rfl ?_
      refine r_iload_n (pc' := 16) C dX9_needOf_15 rfl 2 rfl ?_
      refine r_iload (pc' := 18) C dX9_needOf_16 rfl 4 rfl ?_
      obtain ⟨r2, e3, h⟩ := bd h
      refine r_cS1 (pc' := 21) C (X9_has_ok  e3) mlX9_127 ceX9_has csX9_has rfl (Nat.le_of_ble_eq_true rfl) rfl (Nat.le_of_ble_eq_true rfl) dX9_needOf_18 rfl (kk := ?_)
      refine r_if_eq (tgt := 34) (pc' := 24) C dX9_needOf_21 rfl rfl (fun c4 => ?_) (fun c4 => ?_)
      · rw [if_pos c4] at h
        refine r_iconst (pc' := 35) C dX9_needOf_34 rfl kc_0 ?_
        refine r_iadd (pc' := 36) C dX9_needOf_35 rfl ?_
        refine r_istore_n (pc' := 37) (lv2 := [(3, .int (v3 + 0)), (0, .ref 149), (1, .ref k1), (2, .int v2), (4, .int v4)]) C dX9_needOf_36 rfl rfl (Nat.le_of_ble_eq_true rfl) rfl ?_
        refine r_iinc (pc' := 40) (v := v4 + 1) (lv2 := [(4, .int (v4 + 1)), (3, .int (v3 + 0)), (0, .ref 149), (1, .ref k1), (2, .int v2)]) C dX9_needOf_37 rfl 4 rfl rfl (Nat.le_of_ble_eq_true rfl) rfl ?_
        refine r_goto (tgt := 5) C dX9_needOf_40 rfl ?_
        refine r_sub [2, 3, 4, 1, 0] rfl ?_
        exact ih _ _ _ _ _ h Z C hE
      · rw [if_neg c4] at h
        refine r_aload_n (pc' := 25) C dX9_needOf_24 rfl 0 rfl ?_
        refine r_aload_n (pc' := 26) C dX9_needOf_25 rfl 1 rfl ?_
        refine r_iload (pc' := 28) C dX9_needOf_26 rfl 4 rfl ?_
        obtain ⟨r5, e6, h⟩ := bd h
        refine r_cV1 (pc' := 31) C (X9_need_ok hk1 e6) mlX9_270 ceX9_need cvX9_need sh_149 rfl rfl rfl (Nat.le_of_ble_eq_true rfl) rfl (Nat.le_of_ble_eq_true rfl) dX9_needOf_28 rfl (kk := ?_)
        refine r_goto (tgt := 35) C dX9_needOf_31 rfl ?_
        refine r_iadd (pc' := 36) C dX9_needOf_35 rfl ?_
        refine r_istore_n (pc' := 37) (lv2 := [(3, .int (v3 + r5.1)), (0, .ref 149), (1, .ref k1), (2, .int v2), (4, .int v4)]) C dX9_needOf_36 rfl rfl (Nat.le_of_ble_eq_true rfl) rfl ?_
        refine r_iinc (pc' := 40) (v := v4 + 1) (lv2 := [(4, .int (v4 + 1)), (3, .int (v3 + r5.1)), (0, .ref 149), (1, .ref k1), (2, .int v2)]) C dX9_needOf_37 rfl 4 rfl rfl (Nat.le_of_ble_eq_true rfl) rfl ?_
        refine r_goto (tgt := 5) C dX9_needOf_40 rfl ?_
        refine r_sub [2, 3, 4, 1, 0] rfl ?_
        exact ih _ _ _ _ _ h Z C hE
def X9_needOf (N : Nat) (k1 : Nat) (v2 : Int32) (σ : Sg) : Option (Int32 × Sg) :=
  X9_needOf_l5 N k1 N v2 0 0 σ
set_option maxRecDepth 100000 in
set_option maxHeartbeats 4000000 in
theorem X9_needOf_ok {E : Ev} {k1 : Nat} (hk1 : MaAt SH0 k1) {N : Nat} {v2 : Int32} {σ : Sg} {r : Int32 × Sg} (h : X9_needOf N k1 v2 σ = some r) : Cm E 4 yX9_needOf cX9_needOf 5 (some .int) [.ref 149, .ref k1, .int v2] SH0 SH0 σ r.2 (some (.int r.1)) 0 0 := by
  refine Cm.intro (by decide +kernel) (Nat.le_of_ble_eq_true rfl) (fun _ h => by obtain ⟨_, _, _, _, _, _, h⟩ := h; exact h) (fun Z C hE => ?_)
  show Wm E Z 0 0 SH0 σ 0 [(0, .ref 149), (1, .ref k1), (2, .int v2)] []
  unfold X9_needOf at h
  refine r_iconst (pc' := 1) C dX9_needOf_0 rfl kc_0 ?_
  refine r_istore_n (pc' := 2) (lv2 := [(3, .int 0), (0, .ref 149), (1, .ref k1), (2, .int v2)]) C dX9_needOf_1 rfl rfl (Nat.le_of_ble_eq_true rfl) rfl ?_
  refine r_iconst (pc' := 3) C dX9_needOf_2 rfl kc_0 ?_
  refine r_istore (pc' := 5) (lv2 := [(4, .int 0), (3, .int 0), (0, .ref 149), (1, .ref k1), (2, .int v2)]) C dX9_needOf_3 rfl (Nat.le_of_ble_eq_true rfl) rfl ?_
  refine r_sub [2, 3, 4, 1, 0] rfl ?_
  exact X9_needOf_l5_ok hk1 N _ _ _ _ _ h Z C hE

/-! BorrowedWeightModel.above([II)I -/
def X9_above (N : Nat) (k1 : Nat) (v2 : Int32) (σ : Sg) : Option (Int32 × Sg) :=
  (X9_sumOf N k1 0 v2 σ).bind fun r1 => ((X9_needOf N k1 v2 σ).bind fun r3 => (some (r1 - r3.1, r3.2)))
set_option maxRecDepth 100000 in
set_option maxHeartbeats 4000000 in
theorem X9_above_ok {E : Ev} {k1 : Nat} (hk1 : MaAt SH0 k1) {N : Nat} {v2 : Int32} {σ : Sg} {r : Int32 × Sg} (h : X9_above N k1 v2 σ = some r) : Cm E 5 yX9_above cX9_above 3 (some .int) [.ref 149, .ref k1, .int v2] SH0 SH0 σ r.2 (some (.int r.1)) 0 0 := by
  refine Cm.intro (by decide +kernel) (Nat.le_of_ble_eq_true rfl) (fun _ h => by obtain ⟨_, _, _, _, _, _, h⟩ := h; exact h) (fun Z C hE => ?_)
  show Wm E Z 0 0 SH0 σ 0 [(0, .ref 149), (1, .ref k1), (2, .int v2)] []
  unfold X9_above at h
  refine r_aload_n (pc' := 1) C dX9_above_0 rfl 0 rfl ?_
  refine r_aload_n (pc' := 2) C dX9_above_1 rfl 1 rfl ?_
  refine r_iconst (pc' := 3) C dX9_above_2 rfl kc_0 ?_
  refine r_iload_n (pc' := 4) C dX9_above_3 rfl 2 rfl ?_
  obtain ⟨r1, e2, h⟩ := bd h
  refine r_cV1 (pc' := 7) C (X9_sumOf_ok hk1 e2) mlX9_274 ceX9_sumOf cvX9_sumOf sh_149 rfl rfl rfl (Nat.le_of_ble_eq_true rfl) rfl (Nat.le_of_ble_eq_true rfl) dX9_above_4 rfl (kk := ?_)
  refine r_aload_n (pc' := 8) C dX9_above_7 rfl 0 rfl ?_
  refine r_aload_n (pc' := 9) C dX9_above_8 rfl 1 rfl ?_
  refine r_iload_n (pc' := 10) C dX9_above_9 rfl 2 rfl ?_
  obtain ⟨r3, e4, h⟩ := bd h
  refine r_cV1 (pc' := 13) C (X9_needOf_ok hk1 e4) mlX9_278 ceX9_needOf cvX9_needOf sh_149 rfl rfl rfl (Nat.le_of_ble_eq_true rfl) rfl (Nat.le_of_ble_eq_true rfl) dX9_above_10 rfl (kk := ?_)
  refine r_isub (pc' := 14) C dX9_above_13 rfl ?_
  have h := Option.some.inj h
  subst h
  exact r_ret C rfl dX9_above_14 hE

/-! BorrowedWeightModel.floating([I)I -/
def X9_floating_j30 (N : Nat) (k1 : Nat) (kr : Int32 → Int32 → Sg → Option (Int32 × Sg)) (v2 : Int32) (v3 : Int32) (s0 : Int32) (σ : Sg) : Option (Int32 × Sg) :=
  (X9_above N k1 s0 σ).bind fun r7 => (if 0 ≤ r7.1 then (kr (v2 ||| 0) (v3 + 1) r7.2) else (kr (v2 ||| s0) (v3 + 1) r7.2))
set_option maxRecDepth 100000 in
set_option maxHeartbeats 4000000 in
theorem X9_floating_j30_ok {E : Ev} {k1 : Nat} (hk1 : MaAt SH0 k1) {N : Nat} {kr : Int32 → Int32 → Sg → Option (Int32 × Sg)}  (hkr : ∀ (v2 : Int32) (v3 : Int32) (σ : Sg) (r : Int32 × Sg), kr v2 v3 σ = some r → Gp E RX9 cX9_floating (some .int) 5 6 SH0 r.2 (some (.int r.1)) σ 4 [(0, .ref 149), (1, .ref k1), (2, .int v2), (3, .int v3)] []) {v2 : Int32} {v3 : Int32} {s0 : Int32} {σ : Sg} {r : Int32 × Sg} (h : X9_floating_j30 N k1 kr v2 v3 s0 σ = some r) : Gp E RX9 cX9_floating (some .int) 5 6 SH0 r.2 (some (.int r.1)) σ 30 [(0, .ref 149), (1, .ref k1), (2, .int v2), (3, .int v3)] [.int s0] := by
  intro Z C hE
  unfold X9_floating_j30 at h
  refine r_istore (pc' := 32) (lv2 := [(4, .int s0), (0, .ref 149), (1, .ref k1), (2, .int v2), (3, .int v3)]) C dX9_floating_30 rfl (Nat.le_of_ble_eq_true rfl) rfl ?_
  refine r_iload_n (pc' := 33) C dX9_floating_32 rfl 3 rfl ?_
  refine r_aload_n (pc' := 34) C dX9_floating_33 rfl 1 rfl ?_
  refine r_aload_n (pc' := 35) C dX9_floating_34 rfl 2 rfl ?_
  refine r_iload (pc' := 37) C dX9_floating_35 rfl 0 rfl ?_
  obtain ⟨r7, e8, h⟩ := bd h
  refine r_cV1 (pc' := 40) C (X9_above_ok hk1 e8) mlX9_287 ceX9_above cvX9_above sh_149 rfl rfl rfl (Nat.le_of_ble_eq_true rfl) rfl (Nat.le_of_ble_eq_true rfl) dX9_floating_37 rfl (kk := ?_)
  refine r_if_ge (tgt := 48) (pc' := 43) C dX9_floating_40 rfl rfl (fun c9 => ?_) (fun c9 => ?_)
  · rw [if_pos c9] at h
    refine r_iconst (pc' := 49) C dX9_floating_48 rfl kc_0 ?_
    refine r_ior (pc' := 50) C dX9_floating_49 rfl ?_
    refine r_istore_n (pc' := 51) (lv2 := [(2, .int (v2 ||| 0)), (4, .int s0), (0, .ref 149), (1, .ref k1), (3, .int v3)]) C dX9_floating_50 rfl rfl (Nat.le_of_ble_eq_true rfl) rfl ?_
    refine r_iinc (pc' := 54) (v := v3 + 1) (lv2 := [(3, .int (v3 + 1)), (2, .int (v2 ||| 0)), (4, .int s0), (0, .ref 149), (1, .ref k1)]) C dX9_floating_51 rfl 4 rfl rfl (Nat.le_of_ble_eq_true rfl) rfl ?_
    refine r_goto (tgt := 4) C dX9_floating_54 rfl ?_
    refine r_sub [3, 4, 1, 0] rfl ?_
    exact hkr _ _ _ _ h Z C hE
  · rw [if_neg c9] at h
    refine r_iload (pc' := 45) C dX9_floating_43 rfl 0 rfl ?_
    refine r_goto (tgt := 49) C dX9_floating_45 rfl ?_
    refine r_ior (pc' := 50) C dX9_floating_49 rfl ?_
    refine r_istore_n (pc' := 51) (lv2 := [(2, .int (v2 ||| s0)), (4, .int s0), (0, .ref 149), (1, .ref k1), (3, .int v3)]) C dX9_floating_50 rfl rfl (Nat.le_of_ble_eq_true rfl) rfl ?_
    refine r_iinc (pc' := 54) (v := v3 + 1) (lv2 := [(3, .int (v3 + 1)), (2, .int (v2 ||| s0)), (4, .int s0), (0, .ref 149), (1, .ref k1)]) C dX9_floating_51 rfl 4 rfl rfl (Nat.le_of_ble_eq_true rfl) rfl ?_
    refine r_goto (tgt := 4) C dX9_floating_54 rfl ?_
    refine r_sub [3, 4, 1, 0] rfl ?_
    exact hkr _ _ _ _ h Z C hE
def X9_floating_l4 (N : Nat) (k1 : Nat)   : Nat → Int32 → Int32 → Sg → Option (Int32 × Sg)
  | 0, _, _, _ => none
  | n + 1, v2, v3, σ =>
    if (gi σ 149 3) ≤ v3 then (some (v2, σ)) else ((X9_has N v2 v3 σ).bind fun r2 => (if r2 = 0 then ((X9_bundle N k1 v3 σ).bind fun r5 => (X9_floating_j30 N k1 (fun v2 v3 σ => X9_floating_l4 N k1 n v2 v3 σ) v2 v3 r5 σ)) else (X9_floating_j30 N k1 (fun v2 v3 σ => X9_floating_l4 N k1 n v2 v3 σ) v2 v3 0 σ)))
set_option maxRecDepth 100000 in
set_option maxHeartbeats 4000000 in
theorem X9_floating_l4_ok {E : Ev} {k1 : Nat} (hk1 : MaAt SH0 k1) {N : Nat}    : ∀ (n : Nat) (v2 : Int32) (v3 : Int32) (σ : Sg) (r : Int32 × Sg), X9_floating_l4 N k1 n v2 v3 σ = some r → Gp E RX9 cX9_floating (some .int) 5 6 SH0 r.2 (some (.int r.1)) σ 4 [(0, .ref 149), (1, .ref k1), (2, .int v2), (3, .int v3)] [] := by
  intro n
  induction n with
  | zero => intro v2 v3 σ r h; cases h
  | succ n ih =>
    intro v2 v3 σ r h Z C hE
    unfold X9_floating_l4 at h
    refine r_iload_n (pc' := 5) C dX9_floating_4 rfl 3 rfl ?_
    refine r_aload_n (pc' := 6) C dX9_floating_5 rfl 0 rfl ?_
    refine r_getI (pc' := 9) C flX9_116 sh_149 rfl dX9_floating_6 rfl ?_
    refine r_icmp_ge (tgt := 57) (pc' := 12) C dX9_floating_9 rfl rfl (fun c1 => ?_) (fun c1 => ?_)
    · rw [if_pos c1] at h
      refine r_iload_n (pc' := 58) C dX9_floating_57 rfl 2 rfl ?_
      have h := Option.some.inj h
      subst h
      exact r_ret C rfl dX9_floating_58 hE
    · rw [if_neg c1] at h
      refine r_iload_n (pc' := 13) C dX9_floating_12 rfl 2 rfl ?_
      refine r_iload_n (pc' := 14) C dX9_floating_13 rfl 3 rfl ?_
      obtain ⟨r2, e3, h⟩ := bd h
      refine r_cS1 (pc' := 17) C (X9_has_ok  e3) mlX9_127 ceX9_has csX9_has rfl (Nat.le_of_ble_eq_true rfl) rfl (Nat.le_of_ble_eq_true rfl) dX9_floating_14 rfl (kk := ?_)
      refine r_if_eq (tgt := 24) (pc' := 20) C dX9_floating_17 rfl rfl (fun c4 => ?_) (fun c4 => ?_)
      · rw [if_pos c4] at h
        refine r_aload_n (pc' := 25) C dX9_floating_24 rfl 0 rfl ?_
        refine r_aload_n (pc' := 26) C dX9_floating_25 rfl 1 rfl ?_
        refine r_iload_n (pc' := 27) C dX9_floating_26 rfl 3 rfl ?_
        obtain ⟨r5, e6, h⟩ := bd h
        refine r_cV1 (pc' := 30) C (X9_bundle_ok hk1 e6) mlX9_281 ceX9_bundle cvX9_bundle sh_149 rfl rfl rfl (Nat.le_of_ble_eq_true rfl) rfl (Nat.le_of_ble_eq_true rfl) dX9_floating_27 rfl (kk := ?_)
        exact X9_floating_j30_ok hk1 ih h Z C hE
      · rw [if_neg c4] at h
        refine r_iconst (pc' := 21) C dX9_floating_20 rfl kc_0 ?_
        refine r_goto (tgt := 30) C dX9_floating_21 rfl ?_
        exact X9_floating_j30_ok hk1 ih h Z C hE
def X9_floating (N : Nat) (k1 : Nat)  (σ : Sg) : Option (Int32 × Sg) :=
  X9_floating_l4 N k1 N 0 0 σ
set_option maxRecDepth 100000 in
set_option maxHeartbeats 4000000 in
theorem X9_floating_ok {E : Ev} {k1 : Nat} (hk1 : MaAt SH0 k1) {N : Nat}  {σ : Sg} {r : Int32 × Sg} (h : X9_floating N k1  σ = some r) : Cm E 6 yX9_floating cX9_floating 5 (some .int) [.ref 149, .ref k1] SH0 SH0 σ r.2 (some (.int r.1)) 0 0 := by
  refine Cm.intro (by decide +kernel) (Nat.le_of_ble_eq_true rfl) (fun _ h => by obtain ⟨_, _, _, _, _, _, h⟩ := h; exact h) (fun Z C hE => ?_)
  show Wm E Z 0 0 SH0 σ 0 [(0, .ref 149), (1, .ref k1)] []
  unfold X9_floating at h
  refine r_iconst (pc' := 1) C dX9_floating_0 rfl kc_0 ?_
  refine r_istore_n (pc' := 2) (lv2 := [(2, .int 0), (0, .ref 149), (1, .ref k1)]) C dX9_floating_1 rfl rfl (Nat.le_of_ble_eq_true rfl) rfl ?_
  refine r_iconst (pc' := 3) C dX9_floating_2 rfl kc_0 ?_
  refine r_istore_n (pc' := 4) (lv2 := [(3, .int 0), (2, .int 0), (0, .ref 149), (1, .ref k1)]) C dX9_floating_3 rfl rfl (Nat.le_of_ble_eq_true rfl) rfl ?_
  refine r_sub [2, 3, 1, 0] rfl ?_
  exact X9_floating_l4_ok hk1 N _ _ _ _ h Z C hE

/-! BorrowedWeightModel.all()I -/
def X9_all (N : Nat)   (σ : Sg) : Option (Int32) :=
  some ((1 <<< ((gi σ 149 3) &&& 31)) - 1)
set_option maxRecDepth 100000 in
set_option maxHeartbeats 4000000 in
theorem X9_all_ok {E : Ev}  {N : Nat}  {σ : Sg} {r : Int32} (h : X9_all N   σ = some r) : Cm E 0 yX9_all cX9_all 1 (some .int) [.ref 149] SH0 SH0 σ σ (some (.int r)) 0 0 := by
  refine Cm.intro (by decide +kernel) (Nat.le_of_ble_eq_true rfl) (fun _ h => by obtain ⟨_, _, _, _, _, _, h⟩ := h; exact h) (fun Z C hE => ?_)
  show Wm E Z 0 0 SH0 σ 0 [(0, .ref 149)] []
  unfold X9_all at h
  refine r_iconst (pc' := 1) C dX9_all_0 rfl kc_1 ?_
  refine r_aload_n (pc' := 2) C dX9_all_1 rfl 0 rfl ?_
  refine r_getI (pc' := 5) C flX9_116 sh_149 rfl dX9_all_2 rfl ?_
  refine r_ishl (pc' := 6) C dX9_all_5 rfl ?_
  refine r_iconst (pc' := 7) C dX9_all_6 rfl kc_1 ?_
  refine r_isub (pc' := 8) C dX9_all_7 rfl ?_
  have h := Option.some.inj h
  subst h
  exact r_ret C rfl dX9_all_8 hE

/-! BorrowedWeightModel.here([I)I -/
def X9_here (N : Nat) (k1 : Nat)  (σ : Sg) : Option (Int32) :=
  (X9_all N σ).bind fun r1 => (if inb 32 37 = true then some (r1 &&& ((gi σ k1 (32 : Int32).toNatClampNeg) ^^^ (-1))) else none)
set_option maxRecDepth 100000 in
set_option maxHeartbeats 4000000 in
theorem X9_here_ok {E : Ev} {k1 : Nat} (hk1 : MaAt SH0 k1) {N : Nat}  {σ : Sg} {r : Int32} (h : X9_here N k1  σ = some r) : Cm E 1 yX9_here cX9_here 2 (some .int) [.ref 149, .ref k1] SH0 SH0 σ σ (some (.int r)) 0 0 := by
  refine Cm.intro (by decide +kernel) (Nat.le_of_ble_eq_true rfl) (fun _ h => by obtain ⟨_, _, _, _, _, _, h⟩ := h; exact h) (fun Z C hE => ?_)
  show Wm E Z 0 0 SH0 σ 0 [(0, .ref 149), (1, .ref k1)] []
  unfold X9_here at h
  refine r_aload_n (pc' := 1) C dX9_here_0 rfl 0 rfl ?_
  obtain ⟨r1, e2, h⟩ := bd h
  refine r_cV1 (pc' := 4) C (X9_all_ok  e2) mlX9_131 ceX9_all cvX9_all sh_149 rfl rfl rfl (Nat.le_of_ble_eq_true rfl) rfl (Nat.le_of_ble_eq_true rfl) dX9_here_1 rfl (kk := ?_)
  refine r_aload_n (pc' := 5) C dX9_here_4 rfl 1 rfl ?_
  refine r_bipush (pc' := 7) C dX9_here_5 rfl kb_32 ?_
  obtain ⟨q3, h⟩ := ck h
  refine r_iald (pc' := 8) C hk1 (vin q3) dX9_here_7 rfl ?_
  refine r_iconst (pc' := 9) C dX9_here_8 rfl kc_m1 ?_
  refine r_ixor (pc' := 10) C dX9_here_9 rfl ?_
  refine r_iand (pc' := 11) C dX9_here_10 rfl ?_
  have h := Option.some.inj h
  subst h
  exact r_ret C rfl dX9_here_11 hE

/-! BorrowedWeightModel.goes([II)V -/
def X9_goes_l56 (N : Nat) (k1 : Nat)   : Nat → Int32 → Int32 → Sg → Option (Sg)
  | 0, _, _, _ => none
  | n + 1, v2, v3, σ =>
    if (gi σ 149 3) ≤ v3 then (if inb (24 + v2) 37 = true then bnS (wi σ k1 (24 + v2).toNatClampNeg 0) fun σ22 => some σ22 else none) else (if inb (24 + v3) 37 = true then if inb (24 + v3) 37 = true then bnS (wi σ k1 (24 + v3).toNatClampNeg ((gi σ k1 (24 + v3).toNatClampNeg) &&& ((1 <<< (v2 &&& 31)) ^^^ (-1)))) fun σ26 => X9_goes_l56 N k1 n v2 (v3 + 1) σ26 else none else none)
set_option maxRecDepth 100000 in
set_option maxHeartbeats 4000000 in
theorem X9_goes_l56_ok {E : Ev} {k1 : Nat} (hk1 : MaAt SH0 k1) {N : Nat}    : ∀ (n : Nat) (v2 : Int32) (v3 : Int32) (σ : Sg) (r : Sg), X9_goes_l56 N k1 n v2 v3 σ = some r → Gp E RX9 cX9_goes none 4 1 SH0 r (none) σ 56 [(0, .ref 149), (1, .ref k1), (2, .int v2), (3, .int v3)] [] := by
  intro n
  induction n with
  | zero => intro v2 v3 σ r h; cases h
  | succ n ih =>
    intro v2 v3 σ r h Z C hE
    unfold X9_goes_l56 at h
    refine r_iload_n (pc' := 57) C dX9_goes_56 rfl 3 rfl ?_
    refine r_aload_n (pc' := 58) C dX9_goes_57 rfl 0 rfl ?_
    refine r_getI (pc' := 61) C flX9_116 sh_149 rfl dX9_goes_58 rfl ?_
    refine r_icmp_ge (tgt := 84) (pc' := 64) C dX9_goes_61 rfl rfl (fun c20 => ?_) (fun c20 => ?_)
    · rw [if_pos c20] at h
      refine r_aload_n (pc' := 85) C dX9_goes_84 rfl 1 rfl ?_
      refine r_bipush (pc' := 87) C dX9_goes_85 rfl kb_24 ?_
      refine r_iload_n (pc' := 88) C dX9_goes_87 rfl 2 rfl ?_
      refine r_iadd (pc' := 89) C dX9_goes_88 rfl ?_
      refine r_iconst (pc' := 90) C dX9_goes_89 rfl kc_0 ?_
      obtain ⟨q21, h⟩ := ck h
      obtain ⟨σ22, e23, h⟩ := bs h
      refine r_iast (pc' := 91) (σ1 := σ22) C hk1 (vin q21) dX9_goes_90 rfl e23 ?_
      have h := Option.some.inj h
      subst h
      exact r_vret C dX9_goes_91 hE
    · rw [if_neg c20] at h
      refine r_aload_n (pc' := 65) C dX9_goes_64 rfl 1 rfl ?_
      refine r_bipush (pc' := 67) C dX9_goes_65 rfl kb_24 ?_
      refine r_iload_n (pc' := 68) C dX9_goes_67 rfl 3 rfl ?_
      refine r_iadd (pc' := 69) C dX9_goes_68 rfl ?_
      refine r_dup2 (pc' := 70) C dX9_goes_69 rfl rfl rfl ?_
      obtain ⟨q24, h⟩ := ck h
      refine r_iald (pc' := 71) C hk1 (vin q24) dX9_goes_70 rfl ?_
      refine r_iconst (pc' := 72) C dX9_goes_71 rfl kc_1 ?_
      refine r_iload_n (pc' := 73) C dX9_goes_72 rfl 2 rfl ?_
      refine r_ishl (pc' := 74) C dX9_goes_73 rfl ?_
      refine r_iconst (pc' := 75) C dX9_goes_74 rfl kc_m1 ?_
      refine r_ixor (pc' := 76) C dX9_goes_75 rfl ?_
      refine r_iand (pc' := 77) C dX9_goes_76 rfl ?_
      obtain ⟨q25, h⟩ := ck h
      obtain ⟨σ26, e27, h⟩ := bs h
      refine r_iast (pc' := 78) (σ1 := σ26) C hk1 (vin q25) dX9_goes_77 rfl e27 ?_
      refine r_iinc (pc' := 81) (v := v3 + 1) (lv2 := [(3, .int (v3 + 1)), (0, .ref 149), (1, .ref k1), (2, .int v2)]) C dX9_goes_78 rfl 3 rfl rfl (Nat.le_of_ble_eq_true rfl) rfl ?_
      refine r_goto (tgt := 56) C dX9_goes_81 rfl ?_
      refine r_sub [1, 2, 3, 0] rfl ?_
      exact ih _ _ _ _ h Z C hE
def X9_goes (N : Nat) (k1 : Nat) (v2 : Int32) (σ : Sg) : Option (Sg) :=
  bnS (wi σ 149 25 ((gi σ 149 25) + 1)) fun σ1 => if inb v2 37 = true then bnS (wi σ1 149 26 ((gi σ1 149 26) + (gi σ1 k1 v2.toNatClampNeg))) fun σ4 => if inb 35 37 = true then if inb v2 37 = true then (J9_min_7cf53 N 999 ((gi σ4 k1 (35 : Int32).toNatClampNeg) + (gi σ4 k1 v2.toNatClampNeg)) σ4).bind fun r8 => (if inb 35 37 = true then bnS (wi σ4 k1 (35 : Int32).toNatClampNeg r8) fun σ11 => if inb v2 37 = true then bnS (wi σ11 k1 v2.toNatClampNeg 0) fun σ14 => if inb 32 37 = true then if inb 32 37 = true then bnS (wi σ14 k1 (32 : Int32).toNatClampNeg ((gi σ14 k1 (32 : Int32).toNatClampNeg) ||| (1 <<< (v2 &&& 31)))) fun σ18 => X9_goes_l56 N k1 N v2 0 σ18 else none else none else none else none) else none else none else none
set_option maxRecDepth 100000 in
set_option maxHeartbeats 4000000 in
theorem X9_goes_ok {E : Ev} {k1 : Nat} (hk1 : MaAt SH0 k1) {N : Nat} {v2 : Int32} {σ : Sg} {r : Sg} (h : X9_goes N k1 v2 σ = some r) : Cm E 1 yX9_goes cX9_goes 4 none [.ref 149, .ref k1, .int v2] SH0 SH0 σ r (none) 0 0 := by
  refine Cm.intro (by decide +kernel) (Nat.le_of_ble_eq_true rfl) (fun _ h => by obtain ⟨_, _, _, _, _, _, h⟩ := h; exact h) (fun Z C hE => ?_)
  show Wm E Z 0 0 SH0 σ 0 [(0, .ref 149), (1, .ref k1), (2, .int v2)] []
  unfold X9_goes at h
  refine r_aload_n (pc' := 1) C dX9_goes_0 rfl 0 rfl ?_
  refine r_dup (pc' := 2) C dX9_goes_1 rfl rfl ?_
  refine r_getI (pc' := 5) C flX9_297 sh_149 rfl dX9_goes_2 rfl ?_
  refine r_iconst (pc' := 6) C dX9_goes_5 rfl kc_1 ?_
  refine r_iadd (pc' := 7) C dX9_goes_6 rfl ?_
  obtain ⟨σ1, e2, h⟩ := bs h
  refine r_putI (pc' := 10) (σ1 := σ1) C fpX9_297 sh_149 rfl rfl rfl dX9_goes_7 rfl e2 ?_
  refine r_aload_n (pc' := 11) C dX9_goes_10 rfl 0 rfl ?_
  refine r_dup (pc' := 12) C dX9_goes_11 rfl rfl ?_
  refine r_getI (pc' := 15) C flX9_300 sh_149 rfl dX9_goes_12 rfl ?_
  refine r_aload_n (pc' := 16) C dX9_goes_15 rfl 1 rfl ?_
  refine r_iload_n (pc' := 17) C dX9_goes_16 rfl 2 rfl ?_
  obtain ⟨q3, h⟩ := ck h
  refine r_iald (pc' := 18) C hk1 (vin q3) dX9_goes_17 rfl ?_
  refine r_iadd (pc' := 19) C dX9_goes_18 rfl ?_
  obtain ⟨σ4, e5, h⟩ := bs h
  refine r_putI (pc' := 22) (σ1 := σ4) C fpX9_300 sh_149 rfl rfl rfl dX9_goes_19 rfl e5 ?_
  refine r_aload_n (pc' := 23) C dX9_goes_22 rfl 1 rfl ?_
  refine r_bipush (pc' := 25) C dX9_goes_23 rfl kb_35 ?_
  refine r_sipush (pc' := 28) C dX9_goes_25 rfl ks_999 ?_
  refine r_aload_n (pc' := 29) C dX9_goes_28 rfl 1 rfl ?_
  refine r_bipush (pc' := 31) C dX9_goes_29 rfl kb_35 ?_
  obtain ⟨q6, h⟩ := ck h
  refine r_iald (pc' := 32) C hk1 (vin q6) dX9_goes_31 rfl ?_
  refine r_aload_n (pc' := 33) C dX9_goes_32 rfl 1 rfl ?_
  refine r_iload_n (pc' := 34) C dX9_goes_33 rfl 2 rfl ?_
  obtain ⟨q7, h⟩ := ck h
  refine r_iald (pc' := 35) C hk1 (vin q7) dX9_goes_34 rfl ?_
  refine r_iadd (pc' := 36) C dX9_goes_35 rfl ?_
  obtain ⟨r8, e9, h⟩ := bd h
  refine r_cS1 (pc' := 39) C (J9_min_7cf53_ok  e9) mlX9_150 ceJ9_min_7cf53 csJ9_min_7cf53 rfl (Nat.le_of_ble_eq_true rfl) rfl (Nat.le_of_ble_eq_true rfl) dX9_goes_36 rfl (kk := ?_)
  obtain ⟨q10, h⟩ := ck h
  obtain ⟨σ11, e12, h⟩ := bs h
  refine r_iast (pc' := 40) (σ1 := σ11) C hk1 (vin q10) dX9_goes_39 rfl e12 ?_
  refine r_aload_n (pc' := 41) C dX9_goes_40 rfl 1 rfl ?_
  refine r_iload_n (pc' := 42) C dX9_goes_41 rfl 2 rfl ?_
  refine r_iconst (pc' := 43) C dX9_goes_42 rfl kc_0 ?_
  obtain ⟨q13, h⟩ := ck h
  obtain ⟨σ14, e15, h⟩ := bs h
  refine r_iast (pc' := 44) (σ1 := σ14) C hk1 (vin q13) dX9_goes_43 rfl e15 ?_
  refine r_aload_n (pc' := 45) C dX9_goes_44 rfl 1 rfl ?_
  refine r_bipush (pc' := 47) C dX9_goes_45 rfl kb_32 ?_
  refine r_dup2 (pc' := 48) C dX9_goes_47 rfl rfl rfl ?_
  obtain ⟨q16, h⟩ := ck h
  refine r_iald (pc' := 49) C hk1 (vin q16) dX9_goes_48 rfl ?_
  refine r_iconst (pc' := 50) C dX9_goes_49 rfl kc_1 ?_
  refine r_iload_n (pc' := 51) C dX9_goes_50 rfl 2 rfl ?_
  refine r_ishl (pc' := 52) C dX9_goes_51 rfl ?_
  refine r_ior (pc' := 53) C dX9_goes_52 rfl ?_
  obtain ⟨q17, h⟩ := ck h
  obtain ⟨σ18, e19, h⟩ := bs h
  refine r_iast (pc' := 54) (σ1 := σ18) C hk1 (vin q17) dX9_goes_53 rfl e19 ?_
  refine r_iconst (pc' := 55) C dX9_goes_54 rfl kc_0 ?_
  refine r_istore_n (pc' := 56) (lv2 := [(3, .int 0), (0, .ref 149), (1, .ref k1), (2, .int v2)]) C dX9_goes_55 rfl rfl (Nat.le_of_ble_eq_true rfl) rfl ?_
  refine r_sub [1, 2, 3, 0] rfl ?_
  exact X9_goes_l56_ok hk1 N _ _ _ _ h Z C hE

/-! BorrowedWeightModel.hourGoes([I)V -/
def X9_hourGoes_j55 (N : Nat) (k1 : Nat) (kr : Int32 → Int32 → Int32 → Sg → Option (Sg)) (v2 : Int32) (v3 : Int32) (v4 : Int32) (σ : Sg) : Option (Sg) :=
  (X9_has N v3 v4 σ).bind fun r9 => (if r9 = 0 then (kr v2 v3 (v4 + 1) σ) else (if inb (8 + v4) 37 = true then (X9_has N v2 v4 σ).bind fun r13 => (if r13 = 0 then ((J9_max_7cf53 N 0 ((gi σ k1 (8 + v4).toNatClampNeg) + (-1)) σ).bind fun r16 => (if inb (8 + v4) 37 = true then bnS (wi σ k1 (8 + v4).toNatClampNeg r16) fun σ19 => kr v2 v3 (v4 + 1) σ19 else none)) else ((J9_max_7cf53 N 0 ((gi σ k1 (8 + v4).toNatClampNeg) + 1) σ).bind fun r21 => (if inb (8 + v4) 37 = true then bnS (wi σ k1 (8 + v4).toNatClampNeg r21) fun σ24 => kr v2 v3 (v4 + 1) σ24 else none))) else none))
set_option maxRecDepth 100000 in
set_option maxHeartbeats 4000000 in
theorem X9_hourGoes_j55_ok {E : Ev} {k1 : Nat} (hk1 : MaAt SH0 k1) {N : Nat} {kr : Int32 → Int32 → Int32 → Sg → Option (Sg)}  (hkr : ∀ (v2 : Int32) (v3 : Int32) (v4 : Int32) (σ : Sg) (r : Sg), kr v2 v3 v4 σ = some r → Gp E RX9 cX9_hourGoes none 5 7 SH0 r (none) σ 15 [(0, .ref 149), (1, .ref k1), (2, .int v2), (3, .int v3), (4, .int v4)] []) {v2 : Int32} {v3 : Int32} {v4 : Int32} {σ : Sg} {r : Sg} (h : X9_hourGoes_j55 N k1 kr v2 v3 v4 σ = some r) : Gp E RX9 cX9_hourGoes none 5 7 SH0 r (none) σ 55 [(0, .ref 149), (1, .ref k1), (2, .int v2), (3, .int v3), (4, .int v4)] [] := by
  intro Z C hE
  unfold X9_hourGoes_j55 at h
  refine r_iload_n (pc' := 56) C dX9_hourGoes_55 rfl 3 rfl ?_
  refine r_iload (pc' := 58) C dX9_hourGoes_56 rfl 4 rfl ?_
  obtain ⟨r9, e10, h⟩ := bd h
  refine r_cS1 (pc' := 61) C (X9_has_ok  e10) mlX9_127 ceX9_has csX9_has rfl (Nat.le_of_ble_eq_true rfl) rfl (Nat.le_of_ble_eq_true rfl) dX9_hourGoes_58 rfl (kk := ?_)
  refine r_if_eq (tgt := 97) (pc' := 64) C dX9_hourGoes_61 rfl rfl (fun c11 => ?_) (fun c11 => ?_)
  · rw [if_pos c11] at h
    refine r_iinc (pc' := 100) (v := v4 + 1) (lv2 := [(4, .int (v4 + 1)), (0, .ref 149), (1, .ref k1), (2, .int v2), (3, .int v3)]) C dX9_hourGoes_97 rfl 4 rfl rfl (Nat.le_of_ble_eq_true rfl) rfl ?_
    refine r_goto (tgt := 15) C dX9_hourGoes_100 rfl ?_
    refine r_sub [1, 2, 3, 4, 0] rfl ?_
    exact hkr _ _ _ _ _ h Z C hE
  · rw [if_neg c11] at h
    refine r_aload_n (pc' := 65) C dX9_hourGoes_64 rfl 1 rfl ?_
    refine r_bipush (pc' := 67) C dX9_hourGoes_65 rfl kb_8 ?_
    refine r_iload (pc' := 69) C dX9_hourGoes_67 rfl 4 rfl ?_
    refine r_iadd (pc' := 70) C dX9_hourGoes_69 rfl ?_
    refine r_iconst (pc' := 71) C dX9_hourGoes_70 rfl kc_0 ?_
    refine r_aload_n (pc' := 72) C dX9_hourGoes_71 rfl 1 rfl ?_
    refine r_bipush (pc' := 74) C dX9_hourGoes_72 rfl kb_8 ?_
    refine r_iload (pc' := 76) C dX9_hourGoes_74 rfl 4 rfl ?_
    refine r_iadd (pc' := 77) C dX9_hourGoes_76 rfl ?_
    obtain ⟨q12, h⟩ := ck h
    refine r_iald (pc' := 78) C hk1 (vin q12) dX9_hourGoes_77 rfl ?_
    refine r_iload_n (pc' := 79) C dX9_hourGoes_78 rfl 2 rfl ?_
    refine r_iload (pc' := 81) C dX9_hourGoes_79 rfl 4 rfl ?_
    obtain ⟨r13, e14, h⟩ := bd h
    refine r_cS1 (pc' := 84) C (X9_has_ok  e14) mlX9_127 ceX9_has csX9_has rfl (Nat.le_of_ble_eq_true rfl) rfl (Nat.le_of_ble_eq_true rfl) dX9_hourGoes_81 rfl (kk := ?_)
    refine r_if_eq (tgt := 91) (pc' := 87) C dX9_hourGoes_84 rfl rfl (fun c15 => ?_) (fun c15 => ?_)
    · rw [if_pos c15] at h
      refine r_iconst (pc' := 92) C dX9_hourGoes_91 rfl kc_m1 ?_
      refine r_iadd (pc' := 93) C dX9_hourGoes_92 rfl ?_
      obtain ⟨r16, e17, h⟩ := bd h
      refine r_cS1 (pc' := 96) C (J9_max_7cf53_ok  e17) mlX9_267 ceJ9_max_7cf53 csJ9_max_7cf53 rfl (Nat.le_of_ble_eq_true rfl) rfl (Nat.le_of_ble_eq_true rfl) dX9_hourGoes_93 rfl (kk := ?_)
      obtain ⟨q18, h⟩ := ck h
      obtain ⟨σ19, e20, h⟩ := bs h
      refine r_iast (pc' := 97) (σ1 := σ19) C hk1 (vin q18) dX9_hourGoes_96 rfl e20 ?_
      refine r_iinc (pc' := 100) (v := v4 + 1) (lv2 := [(4, .int (v4 + 1)), (0, .ref 149), (1, .ref k1), (2, .int v2), (3, .int v3)]) C dX9_hourGoes_97 rfl 4 rfl rfl (Nat.le_of_ble_eq_true rfl) rfl ?_
      refine r_goto (tgt := 15) C dX9_hourGoes_100 rfl ?_
      refine r_sub [1, 2, 3, 4, 0] rfl ?_
      exact hkr _ _ _ _ _ h Z C hE
    · rw [if_neg c15] at h
      refine r_iconst (pc' := 88) C dX9_hourGoes_87 rfl kc_1 ?_
      refine r_goto (tgt := 92) C dX9_hourGoes_88 rfl ?_
      refine r_iadd (pc' := 93) C dX9_hourGoes_92 rfl ?_
      obtain ⟨r21, e22, h⟩ := bd h
      refine r_cS1 (pc' := 96) C (J9_max_7cf53_ok  e22) mlX9_267 ceJ9_max_7cf53 csJ9_max_7cf53 rfl (Nat.le_of_ble_eq_true rfl) rfl (Nat.le_of_ble_eq_true rfl) dX9_hourGoes_93 rfl (kk := ?_)
      obtain ⟨q23, h⟩ := ck h
      obtain ⟨σ24, e25, h⟩ := bs h
      refine r_iast (pc' := 97) (σ1 := σ24) C hk1 (vin q23) dX9_hourGoes_96 rfl e25 ?_
      refine r_iinc (pc' := 100) (v := v4 + 1) (lv2 := [(4, .int (v4 + 1)), (0, .ref 149), (1, .ref k1), (2, .int v2), (3, .int v3)]) C dX9_hourGoes_97 rfl 4 rfl rfl (Nat.le_of_ble_eq_true rfl) rfl ?_
      refine r_goto (tgt := 15) C dX9_hourGoes_100 rfl ?_
      refine r_sub [1, 2, 3, 4, 0] rfl ?_
      exact hkr _ _ _ _ _ h Z C hE
def X9_hourGoes_l15 (N : Nat) (k1 : Nat) (k103 : Sg → Option (Sg))  : Nat → Int32 → Int32 → Int32 → Sg → Option (Sg)
  | 0, _, _, _, _ => none
  | n + 1, v2, v3, v4, σ =>
    if (gi σ 149 3) ≤ v4 then (k103 σ) else ((X9_has N v2 v4 σ).bind fun r6 => (if r6 = 0 then (X9_hourGoes_j55 N k1 (fun v2 v3 v4 σ => X9_hourGoes_l15 N k1 k103 n v2 v3 v4 σ) v2 v3 v4 σ) else (if inb (8 + v4) 37 = true then if (gi σ k1 (8 + v4).toNatClampNeg) = 9 then ((X9_goes N k1 v4 σ).bind fun r28 => (X9_hourGoes_l15 N k1 k103 n v2 v3 (v4 + 1) r28)) else (X9_hourGoes_j55 N k1 (fun v2 v3 v4 σ => X9_hourGoes_l15 N k1 k103 n v2 v3 v4 σ) v2 v3 v4 σ) else none)))
set_option maxRecDepth 100000 in
set_option maxHeartbeats 4000000 in
theorem X9_hourGoes_l15_ok {E : Ev} {k1 : Nat} (hk1 : MaAt SH0 k1) {N : Nat} {k103 : Sg → Option (Sg)}  (hk103 : ∀ (σ : Sg) (r : Sg), k103 σ = some r → Gp E RX9 cX9_hourGoes none 5 7 SH0 r (none) σ 103 [(0, .ref 149), (1, .ref k1)] []) : ∀ (n : Nat) (v2 : Int32) (v3 : Int32) (v4 : Int32) (σ : Sg) (r : Sg), X9_hourGoes_l15 N k1 k103 n v2 v3 v4 σ = some r → Gp E RX9 cX9_hourGoes none 5 7 SH0 r (none) σ 15 [(0, .ref 149), (1, .ref k1), (2, .int v2), (3, .int v3), (4, .int v4)] [] := by
  intro n
  induction n with
  | zero => intro v2 v3 v4 σ r h; cases h
  | succ n ih =>
    intro v2 v3 v4 σ r h Z C hE
    unfold X9_hourGoes_l15 at h
    refine r_iload (pc' := 17) C dX9_hourGoes_15 rfl 4 rfl ?_
    refine r_aload_n (pc' := 18) C dX9_hourGoes_17 rfl 0 rfl ?_
    refine r_getI (pc' := 21) C flX9_116 sh_149 rfl dX9_hourGoes_18 rfl ?_
    refine r_icmp_ge (tgt := 103) (pc' := 24) C dX9_hourGoes_21 rfl rfl (fun c5 => ?_) (fun c5 => ?_)
    · rw [if_pos c5] at h
      refine r_sub [0, 1] rfl ?_
      exact hk103 _ _ h Z C hE
    · rw [if_neg c5] at h
      refine r_iload_n (pc' := 25) C dX9_hourGoes_24 rfl 2 rfl ?_
      refine r_iload (pc' := 27) C dX9_hourGoes_25 rfl 4 rfl ?_
      obtain ⟨r6, e7, h⟩ := bd h
      refine r_cS1 (pc' := 30) C (X9_has_ok  e7) mlX9_127 ceX9_has csX9_has rfl (Nat.le_of_ble_eq_true rfl) rfl (Nat.le_of_ble_eq_true rfl) dX9_hourGoes_27 rfl (kk := ?_)
      refine r_if_eq (tgt := 55) (pc' := 33) C dX9_hourGoes_30 rfl rfl (fun c8 => ?_) (fun c8 => ?_)
      · rw [if_pos c8] at h
        exact X9_hourGoes_j55_ok hk1 ih h Z C hE
      · rw [if_neg c8] at h
        refine r_aload_n (pc' := 34) C dX9_hourGoes_33 rfl 1 rfl ?_
        refine r_bipush (pc' := 36) C dX9_hourGoes_34 rfl kb_8 ?_
        refine r_iload (pc' := 38) C dX9_hourGoes_36 rfl 4 rfl ?_
        refine r_iadd (pc' := 39) C dX9_hourGoes_38 rfl ?_
        obtain ⟨q26, h⟩ := ck h
        refine r_iald (pc' := 40) C hk1 (vin q26) dX9_hourGoes_39 rfl ?_
        refine r_bipush (pc' := 42) C dX9_hourGoes_40 rfl kb_9 ?_
        refine r_icmp_ne (tgt := 55) (pc' := 45) C dX9_hourGoes_42 rfl rfl (fun c27 => ?_) (fun c27 => ?_)
        · rw [if_neg c27] at h
          exact X9_hourGoes_j55_ok hk1 ih h Z C hE
        · rw [if_pos c27] at h
          refine r_aload_n (pc' := 46) C dX9_hourGoes_45 rfl 0 rfl ?_
          refine r_aload_n (pc' := 47) C dX9_hourGoes_46 rfl 1 rfl ?_
          refine r_iload (pc' := 49) C dX9_hourGoes_47 rfl 4 rfl ?_
          obtain ⟨r28, e29, h⟩ := bd h
          refine r_cV0 (pc' := 52) C (X9_goes_ok hk1 e29) mlX9_310 ceX9_goes cvX9_goes sh_149 rfl rfl rfl (Nat.le_of_ble_eq_true rfl) rfl (Nat.le_of_ble_eq_true rfl) dX9_hourGoes_49 rfl (kk := ?_)
          refine r_goto (tgt := 97) C dX9_hourGoes_52 rfl ?_
          refine r_iinc (pc' := 100) (v := v4 + 1) (lv2 := [(4, .int (v4 + 1)), (0, .ref 149), (1, .ref k1), (2, .int v2), (3, .int v3)]) C dX9_hourGoes_97 rfl 4 rfl rfl (Nat.le_of_ble_eq_true rfl) rfl ?_
          refine r_goto (tgt := 15) C dX9_hourGoes_100 rfl ?_
          refine r_sub [1, 2, 3, 4, 0] rfl ?_
          exact ih _ _ _ _ _ h Z C hE
def X9_hourGoes_l106 (N : Nat) (k1 : Nat) (k168 : Sg → Option (Sg))  : Nat → Int32 → Sg → Option (Sg)
  | 0, _, _ => none
  | n + 1, v4, σ =>
    if (gi σ 149 3) ≤ v4 then (k168 σ) else (if inb 32 37 = true then (X9_has N (gi σ k1 (32 : Int32).toNatClampNeg) v4 σ).bind fun r32 => (if r32 = 0 then (if inb (16 + v4) 37 = true then if inb v4 37 = true then (J9_min_7cf53 N 999 ((gi σ k1 (16 + v4).toNatClampNeg) + (gi σ k1 v4.toNatClampNeg)) σ).bind fun r37 => (if inb (16 + v4) 37 = true then bnS (wi σ k1 (16 + v4).toNatClampNeg r37) fun σ40 => X9_hourGoes_l106 N k1 k168 n (v4 + 1) σ40 else none) else none else none) else (if inb (16 + v4) 37 = true then if inb (16 + v4) 37 = true then bnS (wi σ k1 (16 + v4).toNatClampNeg (gi σ k1 (16 + v4).toNatClampNeg)) fun σ44 => X9_hourGoes_l106 N k1 k168 n (v4 + 1) σ44 else none else none)) else none)
set_option maxRecDepth 100000 in
set_option maxHeartbeats 4000000 in
theorem X9_hourGoes_l106_ok {E : Ev} {k1 : Nat} (hk1 : MaAt SH0 k1) {N : Nat} {k168 : Sg → Option (Sg)}  (hk168 : ∀ (σ : Sg) (r : Sg), k168 σ = some r → Gp E RX9 cX9_hourGoes none 5 7 SH0 r (none) σ 168 [(1, .ref k1)] []) : ∀ (n : Nat) (v4 : Int32) (σ : Sg) (r : Sg), X9_hourGoes_l106 N k1 k168 n v4 σ = some r → Gp E RX9 cX9_hourGoes none 5 7 SH0 r (none) σ 106 [(0, .ref 149), (1, .ref k1), (4, .int v4)] [] := by
  intro n
  induction n with
  | zero => intro v4 σ r h; cases h
  | succ n ih =>
    intro v4 σ r h Z C hE
    unfold X9_hourGoes_l106 at h
    refine r_iload (pc' := 108) C dX9_hourGoes_106 rfl 2 rfl ?_
    refine r_aload_n (pc' := 109) C dX9_hourGoes_108 rfl 0 rfl ?_
    refine r_getI (pc' := 112) C flX9_116 sh_149 rfl dX9_hourGoes_109 rfl ?_
    refine r_icmp_ge (tgt := 168) (pc' := 115) C dX9_hourGoes_112 rfl rfl (fun c30 => ?_) (fun c30 => ?_)
    · rw [if_pos c30] at h
      refine r_sub [1] rfl ?_
      exact hk168 _ _ h Z C hE
    · rw [if_neg c30] at h
      refine r_aload_n (pc' := 116) C dX9_hourGoes_115 rfl 1 rfl ?_
      refine r_bipush (pc' := 118) C dX9_hourGoes_116 rfl kb_16 ?_
      refine r_iload (pc' := 120) C dX9_hourGoes_118 rfl 2 rfl ?_
      refine r_iadd (pc' := 121) C dX9_hourGoes_120 rfl ?_
      refine r_aload_n (pc' := 122) C dX9_hourGoes_121 rfl 1 rfl ?_
      refine r_bipush (pc' := 124) C dX9_hourGoes_122 rfl kb_32 ?_
      obtain ⟨q31, h⟩ := ck h
      refine r_iald (pc' := 125) C hk1 (vin q31) dX9_hourGoes_124 rfl ?_
      refine r_iload (pc' := 127) C dX9_hourGoes_125 rfl 2 rfl ?_
      obtain ⟨r32, e33, h⟩ := bd h
      refine r_cS1 (pc' := 130) C (X9_has_ok  e33) mlX9_127 ceX9_has csX9_has rfl (Nat.le_of_ble_eq_true rfl) rfl (Nat.le_of_ble_eq_true rfl) dX9_hourGoes_127 rfl (kk := ?_)
      refine r_if_eq (tgt := 143) (pc' := 133) C dX9_hourGoes_130 rfl rfl (fun c34 => ?_) (fun c34 => ?_)
      · rw [if_pos c34] at h
        refine r_sipush (pc' := 146) C dX9_hourGoes_143 rfl ks_999 ?_
        refine r_aload_n (pc' := 147) C dX9_hourGoes_146 rfl 1 rfl ?_
        refine r_bipush (pc' := 149) C dX9_hourGoes_147 rfl kb_16 ?_
        refine r_iload (pc' := 151) C dX9_hourGoes_149 rfl 2 rfl ?_
        refine r_iadd (pc' := 152) C dX9_hourGoes_151 rfl ?_
        obtain ⟨q35, h⟩ := ck h
        refine r_iald (pc' := 153) C hk1 (vin q35) dX9_hourGoes_152 rfl ?_
        refine r_aload_n (pc' := 154) C dX9_hourGoes_153 rfl 1 rfl ?_
        refine r_iload (pc' := 156) C dX9_hourGoes_154 rfl 2 rfl ?_
        obtain ⟨q36, h⟩ := ck h
        refine r_iald (pc' := 157) C hk1 (vin q36) dX9_hourGoes_156 rfl ?_
        refine r_iadd (pc' := 158) C dX9_hourGoes_157 rfl ?_
        obtain ⟨r37, e38, h⟩ := bd h
        refine r_cS1 (pc' := 161) C (J9_min_7cf53_ok  e38) mlX9_150 ceJ9_min_7cf53 csJ9_min_7cf53 rfl (Nat.le_of_ble_eq_true rfl) rfl (Nat.le_of_ble_eq_true rfl) dX9_hourGoes_158 rfl (kk := ?_)
        obtain ⟨q39, h⟩ := ck h
        obtain ⟨σ40, e41, h⟩ := bs h
        refine r_iast (pc' := 162) (σ1 := σ40) C hk1 (vin q39) dX9_hourGoes_161 rfl e41 ?_
        refine r_iinc (pc' := 165) (v := v4 + 1) (lv2 := [(4, .int (v4 + 1)), (0, .ref 149), (1, .ref k1)]) C dX9_hourGoes_162 rfl 2 rfl rfl (Nat.le_of_ble_eq_true rfl) rfl ?_
        refine r_goto (tgt := 106) C dX9_hourGoes_165 rfl ?_
        refine r_sub [1, 2, 0] rfl ?_
        exact ih _ _ _ h Z C hE
      · rw [if_neg c34] at h
        refine r_aload_n (pc' := 134) C dX9_hourGoes_133 rfl 1 rfl ?_
        refine r_bipush (pc' := 136) C dX9_hourGoes_134 rfl kb_16 ?_
        refine r_iload (pc' := 138) C dX9_hourGoes_136 rfl 2 rfl ?_
        refine r_iadd (pc' := 139) C dX9_hourGoes_138 rfl ?_
        obtain ⟨q42, h⟩ := ck h
        refine r_iald (pc' := 140) C hk1 (vin q42) dX9_hourGoes_139 rfl ?_
        refine r_goto (tgt := 161) C dX9_hourGoes_140 rfl ?_
        obtain ⟨q43, h⟩ := ck h
        obtain ⟨σ44, e45, h⟩ := bs h
        refine r_iast (pc' := 162) (σ1 := σ44) C hk1 (vin q43) dX9_hourGoes_161 rfl e45 ?_
        refine r_iinc (pc' := 165) (v := v4 + 1) (lv2 := [(4, .int (v4 + 1)), (0, .ref 149), (1, .ref k1)]) C dX9_hourGoes_162 rfl 2 rfl rfl (Nat.le_of_ble_eq_true rfl) rfl ?_
        refine r_goto (tgt := 106) C dX9_hourGoes_165 rfl ?_
        refine r_sub [1, 2, 0] rfl ?_
        exact ih _ _ _ h Z C hE
def X9_hourGoes_j168 (N : Nat) (k1 : Nat)   (σ : Sg) : Option (Sg) :=
  if inb 36 37 = true then if inb 36 37 = true then bnS (wi σ k1 (36 : Int32).toNatClampNeg ((gi σ k1 (36 : Int32).toNatClampNeg) + 1)) fun σ48 => some σ48 else none else none
set_option maxRecDepth 100000 in
set_option maxHeartbeats 4000000 in
theorem X9_hourGoes_j168_ok {E : Ev} {k1 : Nat} (hk1 : MaAt SH0 k1) {N : Nat}     {σ : Sg} {r : Sg} (h : X9_hourGoes_j168 N k1   σ = some r) : Gp E RX9 cX9_hourGoes none 5 7 SH0 r (none) σ 168 [(1, .ref k1)] [] := by
  intro Z C hE
  unfold X9_hourGoes_j168 at h
  refine r_aload_n (pc' := 169) C dX9_hourGoes_168 rfl 0 rfl ?_
  refine r_bipush (pc' := 171) C dX9_hourGoes_169 rfl kb_36 ?_
  refine r_dup2 (pc' := 172) C dX9_hourGoes_171 rfl rfl rfl ?_
  obtain ⟨q46, h⟩ := ck h
  refine r_iald (pc' := 173) C hk1 (vin q46) dX9_hourGoes_172 rfl ?_
  refine r_iconst (pc' := 174) C dX9_hourGoes_173 rfl kc_1 ?_
  refine r_iadd (pc' := 175) C dX9_hourGoes_174 rfl ?_
  obtain ⟨q47, h⟩ := ck h
  obtain ⟨σ48, e49, h⟩ := bs h
  refine r_iast (pc' := 176) (σ1 := σ48) C hk1 (vin q47) dX9_hourGoes_175 rfl e49 ?_
  have h := Option.some.inj h
  subst h
  exact r_vret C dX9_hourGoes_176 hE
def X9_hourGoes_j103 (N : Nat) (k1 : Nat)   (σ : Sg) : Option (Sg) :=
  X9_hourGoes_l106 N k1 (fun σ => X9_hourGoes_j168 N k1 σ) N 0 σ
set_option maxRecDepth 100000 in
set_option maxHeartbeats 4000000 in
theorem X9_hourGoes_j103_ok {E : Ev} {k1 : Nat} (hk1 : MaAt SH0 k1) {N : Nat}     {σ : Sg} {r : Sg} (h : X9_hourGoes_j103 N k1   σ = some r) : Gp E RX9 cX9_hourGoes none 5 7 SH0 r (none) σ 103 [(0, .ref 149), (1, .ref k1)] [] := by
  intro Z C hE
  unfold X9_hourGoes_j103 at h
  refine r_iconst (pc' := 104) C dX9_hourGoes_103 rfl kc_0 ?_
  refine r_istore (pc' := 106) (lv2 := [(4, .int 0), (0, .ref 149), (1, .ref k1)]) C dX9_hourGoes_104 rfl (Nat.le_of_ble_eq_true rfl) rfl ?_
  refine r_sub [1, 2, 0] rfl ?_
  exact X9_hourGoes_l106_ok hk1 (fun _ _ h Z C hE => by exact X9_hourGoes_j168_ok hk1 h Z C hE) N _ _ _ h Z C hE
def X9_hourGoes (N : Nat) (k1 : Nat)  (σ : Sg) : Option (Sg) :=
  (X9_floating N k1 σ).bind fun r1 => ((X9_here N k1 r1.2).bind fun r3 => (X9_hourGoes_l15 N k1 (fun σ => X9_hourGoes_j103 N k1 σ) N r1.1 r3 0 r1.2))
set_option maxRecDepth 100000 in
set_option maxHeartbeats 4000000 in
theorem X9_hourGoes_ok {E : Ev} {k1 : Nat} (hk1 : MaAt SH0 k1) {N : Nat}  {σ : Sg} {r : Sg} (h : X9_hourGoes N k1  σ = some r) : Cm E 7 yX9_hourGoes cX9_hourGoes 5 none [.ref 149, .ref k1] SH0 SH0 σ r (none) 0 0 := by
  refine Cm.intro (by decide +kernel) (Nat.le_of_ble_eq_true rfl) (fun _ h => by obtain ⟨_, _, _, _, _, _, h⟩ := h; exact h) (fun Z C hE => ?_)
  show Wm E Z 0 0 SH0 σ 0 [(0, .ref 149), (1, .ref k1)] []
  unfold X9_hourGoes at h
  refine r_aload_n (pc' := 1) C dX9_hourGoes_0 rfl 0 rfl ?_
  refine r_aload_n (pc' := 2) C dX9_hourGoes_1 rfl 1 rfl ?_
  obtain ⟨r1, e2, h⟩ := bd h
  refine r_cV1 (pc' := 5) C (X9_floating_ok hk1 e2) mlX9_303 ceX9_floating cvX9_floating sh_149 rfl rfl rfl (Nat.le_of_ble_eq_true rfl) rfl (Nat.le_of_ble_eq_true rfl) dX9_hourGoes_2 rfl (kk := ?_)
  refine r_istore_n (pc' := 6) (lv2 := [(2, .int r1.1), (0, .ref 149), (1, .ref k1)]) C dX9_hourGoes_5 rfl rfl (Nat.le_of_ble_eq_true rfl) rfl ?_
  refine r_aload_n (pc' := 7) C dX9_hourGoes_6 rfl 1 rfl ?_
  refine r_aload_n (pc' := 8) C dX9_hourGoes_7 rfl 2 rfl ?_
  obtain ⟨r3, e4, h⟩ := bd h
  refine r_cV1 (pc' := 11) C (X9_here_ok hk1 e4) mlX9_307 ceX9_here cvX9_here sh_149 rfl rfl rfl (Nat.le_of_ble_eq_true rfl) rfl (Nat.le_of_ble_eq_true rfl) dX9_hourGoes_8 rfl (kk := ?_)
  refine r_istore_n (pc' := 12) (lv2 := [(3, .int r3), (2, .int r1.1), (0, .ref 149), (1, .ref k1)]) C dX9_hourGoes_11 rfl rfl (Nat.le_of_ble_eq_true rfl) rfl ?_
  refine r_iconst (pc' := 13) C dX9_hourGoes_12 rfl kc_0 ?_
  refine r_istore (pc' := 15) (lv2 := [(4, .int 0), (3, .int r3), (2, .int r1.1), (0, .ref 149), (1, .ref k1)]) C dX9_hourGoes_13 rfl (Nat.le_of_ble_eq_true rfl) rfl ?_
  refine r_sub [3, 4, 2, 1, 0] rfl ?_
  exact X9_hourGoes_l15_ok hk1 (fun _ _ h Z C hE => by exact X9_hourGoes_j103_ok hk1 h Z C hE) N _ _ _ _ _ h Z C hE
