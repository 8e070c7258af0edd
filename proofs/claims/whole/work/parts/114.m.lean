/-! BorrowedWeightModel.surplus()I -/
def X9_surplus_l29 (N : Nat)  (k50 : Int32 → Int32 → Sg → Option (Int32 × Sg))  : Nat → Int32 → Int32 → Int32 → Sg → Option (Int32 × Sg)
  | 0, _, _, _, _ => none
  | n + 1, v1, v2, v3, σ =>
    if (gi σ 149 3) ≤ v3 then (k50 v1 v2 σ) else (if inb v3 8 = true then bnS (wi σ 165 v3.toNatClampNeg 0) fun σ9 => X9_surplus_l29 N k50 n v1 v2 (v3 + 1) σ9 else none)
set_option maxRecDepth 100000 in
set_option maxHeartbeats 4000000 in
theorem X9_surplus_l29_ok {E : Ev}  {N : Nat} {k50 : Int32 → Int32 → Sg → Option (Int32 × Sg)}  (hk50 : ∀ (v1 : Int32) (v2 : Int32) (σ : Sg) (r : Int32 × Sg), k50 v1 v2 σ = some r → Gp E RX9 cX9_surplus (some .int) 8 (7) SH0 r.2 (some (.int r.1)) σ 50 [(0, .ref 149), (1, .int v1), (2, .int v2)] []) : ∀ (n : Nat) (v1 : Int32) (v2 : Int32) (v3 : Int32) (σ : Sg) (r : Int32 × Sg), X9_surplus_l29 N k50 n v1 v2 v3 σ = some r → Gp E RX9 cX9_surplus (some .int) 8 (7) SH0 r.2 (some (.int r.1)) σ 29 [(0, .ref 149), (1, .int v1), (2, .int v2), (3, .int v3)] [] := by
  intro n
  induction n with
  | zero => intro v1 v2 v3 σ r h; cases h
  | succ n ih =>
    intro v1 v2 v3 σ r h Z C hE
    unfold X9_surplus_l29 at h
    refine r_iload_n (pc' := 30) C dX9_surplus_29 rfl 3 rfl ?_
    refine r_aload_n (pc' := 31) C dX9_surplus_30 rfl 0 rfl ?_
    refine r_getI (pc' := 34) C flX9_116 sh_149 rfl dX9_surplus_31 rfl ?_
    refine r_icmp_ge (tgt := 50) (pc' := 37) C dX9_surplus_34 rfl rfl (fun c7 => ?_) (fun c7 => ?_)
    · rw [if_pos c7] at h
      refine r_sub [0, 1, 2] rfl ?_
      exact hk50 _ _ _ _ h Z C hE
    · rw [if_neg c7] at h
      refine r_aload_n (pc' := 38) C dX9_surplus_37 rfl 0 rfl ?_
      refine r_getR (pc' := 41) C flX9_70 sh_149 rfl dX9_surplus_38 rfl ?_
      refine r_iload_n (pc' := 42) C dX9_surplus_41 rfl 3 rfl ?_
      refine r_iconst (pc' := 43) C dX9_surplus_42 rfl kc_0 ?_
      obtain ⟨q8, h⟩ := ck h
      obtain ⟨σ9, e10, h⟩ := bs h
      refine r_iast (pc' := 44) (σ1 := σ9) C sh_165 (vin q8) dX9_surplus_43 rfl e10 ?_
      refine r_iinc (pc' := 47) (v := v3 + 1) (lv2 := [(3, .int (v3 + 1)), (0, .ref 149), (1, .int v1), (2, .int v2)]) C dX9_surplus_44 rfl 3 rfl rfl (Nat.le_of_ble_eq_true rfl) rfl ?_
      refine r_goto (tgt := 29) C dX9_surplus_47 rfl ?_
      refine r_sub [1, 2, 3, 0] rfl ?_
      exact ih _ _ _ _ _ h Z C hE
def X9_surplus_j138 (N : Nat)  (kr : Int32 → Int32 → Int32 → Int32 → Int32 → Int32 → Sg → Option (Int32 × Sg)) (v1 : Int32) (v2 : Int32) (v3 : Int32) (v4 : Int32) (v5 : Int32) (v6 : Int32) (s0 : Int32) (σ : Sg) : Option (Int32 × Sg) :=
  if inb v6 8 = true then if inb v6 8 = true then bnS (wi σ 165 v6.toNatClampNeg ((gi σ 165 v6.toNatClampNeg) + s0)) fun σ23 => kr v1 v2 v3 v4 (v5 - s0) (v6 + 1) σ23 else none else none
set_option maxRecDepth 100000 in
set_option maxHeartbeats 4000000 in
theorem X9_surplus_j138_ok {E : Ev}  {N : Nat} {kr : Int32 → Int32 → Int32 → Int32 → Int32 → Int32 → Sg → Option (Int32 × Sg)}  (hkr : ∀ (v1 : Int32) (v2 : Int32) (v3 : Int32) (v4 : Int32) (v5 : Int32) (v6 : Int32) (σ : Sg) (r : Int32 × Sg), kr v1 v2 v3 v4 v5 v6 σ = some r → Gp E RX9 cX9_surplus (some .int) 8 (7) SH0 r.2 (some (.int r.1)) σ 103 [(0, .ref 149), (1, .int v1), (2, .int v2), (3, .int v3), (4, .int v4), (5, .int v5), (6, .int v6)] []) {v1 : Int32} {v2 : Int32} {v3 : Int32} {v4 : Int32} {v5 : Int32} {v6 : Int32} {s0 : Int32} {σ : Sg} {r : Int32 × Sg} (h : X9_surplus_j138 N  kr v1 v2 v3 v4 v5 v6 s0 σ = some r) : Gp E RX9 cX9_surplus (some .int) 8 (7) SH0 r.2 (some (.int r.1)) σ 138 [(0, .ref 149), (1, .int v1), (2, .int v2), (3, .int v3), (4, .int v4), (5, .int v5), (6, .int v6)] [.int s0] := by
  intro Z C hE
  unfold X9_surplus_j138 at h
  refine r_istore (pc' := 140) (lv2 := [(7, .int s0), (0, .ref 149), (1, .int v1), (2, .int v2), (3, .int v3), (4, .int v4), (5, .int v5), (6, .int v6)]) C dX9_surplus_138 rfl (Nat.le_of_ble_eq_true rfl) rfl ?_
  refine r_aload_n (pc' := 141) C dX9_surplus_140 rfl 1 rfl ?_
  refine r_getR (pc' := 144) C flX9_70 sh_149 rfl dX9_surplus_141 rfl ?_
  refine r_iload (pc' := 146) C dX9_surplus_144 rfl 7 rfl ?_
  refine r_dup2 (pc' := 147) C dX9_surplus_146 rfl rfl rfl ?_
  obtain ⟨q21, h⟩ := ck h
  refine r_iald (pc' := 148) C sh_165 (vin q21) dX9_surplus_147 rfl ?_
  refine r_iload (pc' := 150) C dX9_surplus_148 rfl 0 rfl ?_
  refine r_iadd (pc' := 151) C dX9_surplus_150 rfl ?_
  obtain ⟨q22, h⟩ := ck h
  obtain ⟨σ23, e24, h⟩ := bs h
  refine r_iast (pc' := 152) (σ1 := σ23) C sh_165 (vin q22) dX9_surplus_151 rfl e24 ?_
  refine r_iload (pc' := 154) C dX9_surplus_152 rfl 6 rfl ?_
  refine r_iload (pc' := 156) C dX9_surplus_154 rfl 0 rfl ?_
  refine r_isub (pc' := 157) C dX9_surplus_156 rfl ?_
  refine r_istore (pc' := 159) (lv2 := [(5, .int (v5 - s0)), (7, .int s0), (0, .ref 149), (1, .int v1), (2, .int v2), (3, .int v3), (4, .int v4), (6, .int v6)]) C dX9_surplus_157 rfl (Nat.le_of_ble_eq_true rfl) rfl ?_
  refine r_iinc (pc' := 162) (v := v6 + 1) (lv2 := [(6, .int (v6 + 1)), (5, .int (v5 - s0)), (7, .int s0), (0, .ref 149), (1, .int v1), (2, .int v2), (3, .int v3), (4, .int v4)]) C dX9_surplus_159 rfl 7 rfl rfl (Nat.le_of_ble_eq_true rfl) rfl ?_
  refine r_goto (tgt := 103) C dX9_surplus_162 rfl ?_
  refine r_sub [3, 4, 5, 6, 7, 1, 0] rfl ?_
  exact hkr _ _ _ _ _ _ _ _ h Z C hE
def X9_surplus_l103 (N : Nat)  (k165 : Int32 → Int32 → Int32 → Sg → Option (Int32 × Sg))  : Nat → Int32 → Int32 → Int32 → Int32 → Int32 → Int32 → Sg → Option (Int32 × Sg)
  | 0, _, _, _, _, _, _, _ => none
  | n + 1, v1, v2, v3, v4, v5, v6, σ =>
    if (gi σ 149 3) ≤ v6 then (k165 v1 v2 v3 σ) else ((X9_has N v4 v6 σ).bind fun r18 => (if r18 = 0 then (X9_surplus_j138 N (fun v1 v2 v3 v4 v5 v6 σ => X9_surplus_l103 N k165 n v1 v2 v3 v4 v5 v6 σ) v1 v2 v3 v4 v5 v6 0 σ) else (if inb v6 37 = true then (J9_min_7cf53 N v5 (gi σ 153 v6.toNatClampNeg) σ).bind fun r26 => (X9_surplus_j138 N (fun v1 v2 v3 v4 v5 v6 σ => X9_surplus_l103 N k165 n v1 v2 v3 v4 v5 v6 σ) v1 v2 v3 v4 v5 v6 r26 σ) else none)))
set_option maxRecDepth 100000 in
set_option maxHeartbeats 4000000 in
theorem X9_surplus_l103_ok {E : Ev}  {N : Nat} {k165 : Int32 → Int32 → Int32 → Sg → Option (Int32 × Sg)}  (hk165 : ∀ (v1 : Int32) (v2 : Int32) (v3 : Int32) (σ : Sg) (r : Int32 × Sg), k165 v1 v2 v3 σ = some r → Gp E RX9 cX9_surplus (some .int) 8 (7) SH0 r.2 (some (.int r.1)) σ 165 [(0, .ref 149), (1, .int v1), (2, .int v2), (3, .int v3)] []) : ∀ (n : Nat) (v1 : Int32) (v2 : Int32) (v3 : Int32) (v4 : Int32) (v5 : Int32) (v6 : Int32) (σ : Sg) (r : Int32 × Sg), X9_surplus_l103 N k165 n v1 v2 v3 v4 v5 v6 σ = some r → Gp E RX9 cX9_surplus (some .int) 8 (7) SH0 r.2 (some (.int r.1)) σ 103 [(0, .ref 149), (1, .int v1), (2, .int v2), (3, .int v3), (4, .int v4), (5, .int v5), (6, .int v6)] [] := by
  intro n
  induction n with
  | zero => intro v1 v2 v3 v4 v5 v6 σ r h; cases h
  | succ n ih =>
    intro v1 v2 v3 v4 v5 v6 σ r h Z C hE
    unfold X9_surplus_l103 at h
    refine r_iload (pc' := 105) C dX9_surplus_103 rfl 6 rfl ?_
    refine r_aload_n (pc' := 106) C dX9_surplus_105 rfl 0 rfl ?_
    refine r_getI (pc' := 109) C flX9_116 sh_149 rfl dX9_surplus_106 rfl ?_
    refine r_icmp_ge (tgt := 165) (pc' := 112) C dX9_surplus_109 rfl rfl (fun c17 => ?_) (fun c17 => ?_)
    · rw [if_pos c17] at h
      refine r_sub [0, 1, 2, 3] rfl ?_
      exact hk165 _ _ _ _ _ h Z C hE
    · rw [if_neg c17] at h
      refine r_iload (pc' := 114) C dX9_surplus_112 rfl 4 rfl ?_
      refine r_iload (pc' := 116) C dX9_surplus_114 rfl 6 rfl ?_
      obtain ⟨r18, e19, h⟩ := bd h
      refine r_cS1 (pc' := 119) C (X9_has_ok  e19) mlX9_127 ceX9_has csX9_has rfl (Nat.le_of_ble_eq_true rfl) rfl (Nat.le_of_ble_eq_true rfl) dX9_surplus_116 rfl (kk := ?_)
      refine r_if_eq (tgt := 137) (pc' := 122) C dX9_surplus_119 rfl rfl (fun c20 => ?_) (fun c20 => ?_)
      · rw [if_pos c20] at h
        refine r_iconst (pc' := 138) C dX9_surplus_137 rfl kc_0 ?_
        exact X9_surplus_j138_ok  ih h Z C hE
      · rw [if_neg c20] at h
        refine r_iload (pc' := 124) C dX9_surplus_122 rfl 5 rfl ?_
        refine r_aload_n (pc' := 125) C dX9_surplus_124 rfl 0 rfl ?_
        refine r_getR (pc' := 128) C flX9_34 sh_149 rfl dX9_surplus_125 rfl ?_
        refine r_iload (pc' := 130) C dX9_surplus_128 rfl 6 rfl ?_
        obtain ⟨q25, h⟩ := ck h
        refine r_iald (pc' := 131) C sh_153 (vin q25) dX9_surplus_130 rfl ?_
        obtain ⟨r26, e27, h⟩ := bd h
        refine r_cS1 (pc' := 134) C (J9_min_7cf53_ok  e27) mlX9_150 ceJ9_min_7cf53 csJ9_min_7cf53 rfl (Nat.le_of_ble_eq_true rfl) rfl (Nat.le_of_ble_eq_true rfl) dX9_surplus_131 rfl (kk := ?_)
        refine r_goto (tgt := 138) C dX9_surplus_134 rfl ?_
        exact X9_surplus_j138_ok  ih h Z C hE
def X9_surplus_j165 (N : Nat)  (kr : Int32 → Int32 → Int32 → Sg → Option (Int32 × Sg)) (v1 : Int32) (v2 : Int32) (v3 : Int32) (σ : Sg) : Option (Int32 × Sg) :=
  kr v1 v2 (v3 + 1) σ
set_option maxRecDepth 100000 in
set_option maxHeartbeats 4000000 in
theorem X9_surplus_j165_ok {E : Ev}  {N : Nat} {kr : Int32 → Int32 → Int32 → Sg → Option (Int32 × Sg)}  (hkr : ∀ (v1 : Int32) (v2 : Int32) (v3 : Int32) (σ : Sg) (r : Int32 × Sg), kr v1 v2 v3 σ = some r → Gp E RX9 cX9_surplus (some .int) 8 (7) SH0 r.2 (some (.int r.1)) σ 52 [(0, .ref 149), (1, .int v1), (2, .int v2), (3, .int v3)] []) {v1 : Int32} {v2 : Int32} {v3 : Int32} {σ : Sg} {r : Int32 × Sg} (h : X9_surplus_j165 N  kr v1 v2 v3 σ = some r) : Gp E RX9 cX9_surplus (some .int) 8 (7) SH0 r.2 (some (.int r.1)) σ 165 [(0, .ref 149), (1, .int v1), (2, .int v2), (3, .int v3)] [] := by
  intro Z C hE
  unfold X9_surplus_j165 at h
  refine r_iinc (pc' := 168) (v := v3 + 1) (lv2 := [(3, .int (v3 + 1)), (0, .ref 149), (1, .int v1), (2, .int v2)]) C dX9_surplus_165 rfl 3 rfl rfl (Nat.le_of_ble_eq_true rfl) rfl ?_
  refine r_goto (tgt := 52) C dX9_surplus_168 rfl ?_
  refine r_sub [1, 2, 3, 0] rfl ?_
  exact hkr _ _ _ _ _ h Z C hE
def X9_surplus_j81 (N : Nat)  (kr : Int32 → Int32 → Int32 → Sg → Option (Int32 × Sg)) (v1 : Int32) (v2 : Int32) (v3 : Int32) (s0 : Int32) (σ : Sg) : Option (Int32 × Sg) :=
  (X9_above N 153 s0 σ).bind fun r15 => (X9_surplus_l103 N (fun v1 v2 v3 σ => X9_surplus_j165 N kr v1 v2 v3 σ) N v1 (v2 + r15.1) v3 s0 r15.1 0 r15.2)
set_option maxRecDepth 100000 in
set_option maxHeartbeats 4000000 in
theorem X9_surplus_j81_ok {E : Ev}  {N : Nat} {kr : Int32 → Int32 → Int32 → Sg → Option (Int32 × Sg)}  (hkr : ∀ (v1 : Int32) (v2 : Int32) (v3 : Int32) (σ : Sg) (r : Int32 × Sg), kr v1 v2 v3 σ = some r → Gp E RX9 cX9_surplus (some .int) 8 (7) SH0 r.2 (some (.int r.1)) σ 52 [(0, .ref 149), (1, .int v1), (2, .int v2), (3, .int v3)] []) {v1 : Int32} {v2 : Int32} {v3 : Int32} {s0 : Int32} {σ : Sg} {r : Int32 × Sg} (h : X9_surplus_j81 N  kr v1 v2 v3 s0 σ = some r) : Gp E RX9 cX9_surplus (some .int) 8 (7) SH0 r.2 (some (.int r.1)) σ 81 [(0, .ref 149), (1, .int v1), (2, .int v2), (3, .int v3)] [.int s0] := by
  intro Z C hE
  unfold X9_surplus_j81 at h
  refine r_istore (pc' := 83) (lv2 := [(4, .int s0), (0, .ref 149), (1, .int v1), (2, .int v2), (3, .int v3)]) C dX9_surplus_81 rfl (Nat.le_of_ble_eq_true rfl) rfl ?_
  refine r_aload_n (pc' := 84) C dX9_surplus_83 rfl 1 rfl ?_
  refine r_aload_n (pc' := 85) C dX9_surplus_84 rfl 1 rfl ?_
  refine r_getR (pc' := 88) C flX9_34 sh_149 rfl dX9_surplus_85 rfl ?_
  refine r_iload (pc' := 90) C dX9_surplus_88 rfl 0 rfl ?_
  obtain ⟨r15, e16, h⟩ := bd h
  refine r_cV1 (pc' := 93) C (X9_above_ok mac_153 e16) mlX9_287 ceX9_above cvX9_above sh_149 rfl rfl rfl (Nat.le_of_ble_eq_true rfl) rfl (Nat.le_of_ble_eq_true rfl) dX9_surplus_90 rfl (kk := ?_)
  refine r_istore (pc' := 95) (lv2 := [(5, .int r15.1), (4, .int s0), (0, .ref 149), (1, .int v1), (2, .int v2), (3, .int v3)]) C dX9_surplus_93 rfl (Nat.le_of_ble_eq_true rfl) rfl ?_
  refine r_iload_n (pc' := 96) C dX9_surplus_95 rfl 4 rfl ?_
  refine r_iload (pc' := 98) C dX9_surplus_96 rfl 0 rfl ?_
  refine r_iadd (pc' := 99) C dX9_surplus_98 rfl ?_
  refine r_istore_n (pc' := 100) (lv2 := [(2, .int (v2 + r15.1)), (5, .int r15.1), (4, .int s0), (0, .ref 149), (1, .int v1), (3, .int v3)]) C dX9_surplus_99 rfl rfl (Nat.le_of_ble_eq_true rfl) rfl ?_
  refine r_iconst (pc' := 101) C dX9_surplus_100 rfl kc_0 ?_
  refine r_istore (pc' := 103) (lv2 := [(6, .int 0), (2, .int (v2 + r15.1)), (5, .int r15.1), (4, .int s0), (0, .ref 149), (1, .int v1), (3, .int v3)]) C dX9_surplus_101 rfl (Nat.le_of_ble_eq_true rfl) rfl ?_
  refine r_sub [4, 5, 1, 6, 3, 2, 0] rfl ?_
  exact X9_surplus_l103_ok  (fun _ _ _ _ _ h Z C hE => by exact X9_surplus_j165_ok  hkr h Z C hE) N _ _ _ _ _ _ _ _ h Z C hE
def X9_surplus_l52 (N : Nat)  (k171 : Int32 → Sg → Option (Int32 × Sg))  : Nat → Int32 → Int32 → Int32 → Sg → Option (Int32 × Sg)
  | 0, _, _, _, _ => none
  | n + 1, v1, v2, v3, σ =>
    if (gi σ 149 3) ≤ v3 then (k171 v2 σ) else ((X9_has N v1 v3 σ).bind fun r12 => (if r12 = 0 then (X9_surplus_j81 N (fun v1 v2 v3 σ => X9_surplus_l52 N k171 n v1 v2 v3 σ) v1 v2 v3 0 σ) else ((X9_bundle N 153 v3 σ).bind fun r28 => (X9_surplus_j81 N (fun v1 v2 v3 σ => X9_surplus_l52 N k171 n v1 v2 v3 σ) v1 v2 v3 r28 σ))))
set_option maxRecDepth 100000 in
set_option maxHeartbeats 4000000 in
theorem X9_surplus_l52_ok {E : Ev}  {N : Nat} {k171 : Int32 → Sg → Option (Int32 × Sg)}  (hk171 : ∀ (v2 : Int32) (σ : Sg) (r : Int32 × Sg), k171 v2 σ = some r → Gp E RX9 cX9_surplus (some .int) 8 (7) SH0 r.2 (some (.int r.1)) σ 171 [(0, .ref 149), (2, .int v2)] []) : ∀ (n : Nat) (v1 : Int32) (v2 : Int32) (v3 : Int32) (σ : Sg) (r : Int32 × Sg), X9_surplus_l52 N k171 n v1 v2 v3 σ = some r → Gp E RX9 cX9_surplus (some .int) 8 (7) SH0 r.2 (some (.int r.1)) σ 52 [(0, .ref 149), (1, .int v1), (2, .int v2), (3, .int v3)] [] := by
  intro n
  induction n with
  | zero => intro v1 v2 v3 σ r h; cases h
  | succ n ih =>
    intro v1 v2 v3 σ r h Z C hE
    unfold X9_surplus_l52 at h
    refine r_iload_n (pc' := 53) C dX9_surplus_52 rfl 3 rfl ?_
    refine r_aload_n (pc' := 54) C dX9_surplus_53 rfl 0 rfl ?_
    refine r_getI (pc' := 57) C flX9_116 sh_149 rfl dX9_surplus_54 rfl ?_
    refine r_icmp_ge (tgt := 171) (pc' := 60) C dX9_surplus_57 rfl rfl (fun c11 => ?_) (fun c11 => ?_)
    · rw [if_pos c11] at h
      refine r_sub [0, 2] rfl ?_
      exact hk171 _ _ _ h Z C hE
    · rw [if_neg c11] at h
      refine r_iload_n (pc' := 61) C dX9_surplus_60 rfl 1 rfl ?_
      refine r_iload_n (pc' := 62) C dX9_surplus_61 rfl 3 rfl ?_
      obtain ⟨r12, e13, h⟩ := bd h
      refine r_cS1 (pc' := 65) C (X9_has_ok  e13) mlX9_127 ceX9_has csX9_has rfl (Nat.le_of_ble_eq_true rfl) rfl (Nat.le_of_ble_eq_true rfl) dX9_surplus_62 rfl (kk := ?_)
      refine r_if_eq (tgt := 80) (pc' := 68) C dX9_surplus_65 rfl rfl (fun c14 => ?_) (fun c14 => ?_)
      · rw [if_pos c14] at h
        refine r_iconst (pc' := 81) C dX9_surplus_80 rfl kc_0 ?_
        exact X9_surplus_j81_ok  ih h Z C hE
      · rw [if_neg c14] at h
        refine r_aload_n (pc' := 69) C dX9_surplus_68 rfl 0 rfl ?_
        refine r_aload_n (pc' := 70) C dX9_surplus_69 rfl 0 rfl ?_
        refine r_getR (pc' := 73) C flX9_34 sh_149 rfl dX9_surplus_70 rfl ?_
        refine r_iload_n (pc' := 74) C dX9_surplus_73 rfl 3 rfl ?_
        obtain ⟨r28, e29, h⟩ := bd h
        refine r_cV1 (pc' := 77) C (X9_bundle_ok mac_153 e29) mlX9_281 ceX9_bundle cvX9_bundle sh_149 rfl rfl rfl (Nat.le_of_ble_eq_true rfl) rfl (Nat.le_of_ble_eq_true rfl) dX9_surplus_74 rfl (kk := ?_)
        refine r_goto (tgt := 81) C dX9_surplus_77 rfl ?_
        exact X9_surplus_j81_ok  ih h Z C hE
def X9_surplus_l178 (N : Nat)    : Nat → Int32 → Int32 → Sg → Option (Int32 × Sg)
  | 0, _, _, _ => none
  | n + 1, v2, v3, σ =>
    if (gi σ 149 3) ≤ v3 then (some (v2, σ)) else (if inb v3 8 = true then (X9_enters N ((gi σ 165 v3.toNatClampNeg).toInt64) σ).bind fun r34 => (X9_surplus_l178 N n v2 (v3 + 1) r34) else none)
set_option maxRecDepth 100000 in
set_option maxHeartbeats 4000000 in
theorem X9_surplus_l178_ok {E : Ev}  {N : Nat}    : ∀ (n : Nat) (v2 : Int32) (v3 : Int32) (σ : Sg) (r : Int32 × Sg), X9_surplus_l178 N n v2 v3 σ = some r → Gp E RX9 cX9_surplus (some .int) 8 (7) SH0 r.2 (some (.int r.1)) σ 178 [(0, .ref 149), (2, .int v2), (3, .int v3)] [] := by
  intro n
  induction n with
  | zero => intro v2 v3 σ r h; cases h
  | succ n ih =>
    intro v2 v3 σ r h Z C hE
    unfold X9_surplus_l178 at h
    refine r_iload_n (pc' := 179) C dX9_surplus_178 rfl 2 rfl ?_
    refine r_aload_n (pc' := 180) C dX9_surplus_179 rfl 0 rfl ?_
    refine r_getI (pc' := 183) C flX9_116 sh_149 rfl dX9_surplus_180 rfl ?_
    refine r_icmp_ge (tgt := 203) (pc' := 186) C dX9_surplus_183 rfl rfl (fun c32 => ?_) (fun c32 => ?_)
    · rw [if_pos c32] at h
      refine r_iload_n (pc' := 204) C dX9_surplus_203 rfl 1 rfl ?_
      have h := Option.some.inj h
      subst h
      exact r_ret C rfl dX9_surplus_204 hE
    · rw [if_neg c32] at h
      refine r_aload_n (pc' := 187) C dX9_surplus_186 rfl 0 rfl ?_
      refine r_aload_n (pc' := 188) C dX9_surplus_187 rfl 0 rfl ?_
      refine r_getR (pc' := 191) C flX9_70 sh_149 rfl dX9_surplus_188 rfl ?_
      refine r_iload_n (pc' := 192) C dX9_surplus_191 rfl 2 rfl ?_
      obtain ⟨q33, h⟩ := ck h
      refine r_iald (pc' := 193) C sh_165 (vin q33) dX9_surplus_192 rfl ?_
      refine r_i2l (pc' := 194) C dX9_surplus_193 rfl rfl ?_
      obtain ⟨r34, e35, h⟩ := bd h
      refine r_cV0 (pc' := 197) C (X9_enters_ok  e35) mlX9_327 ceX9_enters cvX9_enters sh_149 rfl rfl rfl (Nat.le_of_ble_eq_true rfl) rfl (Nat.le_of_ble_eq_true rfl) dX9_surplus_194 rfl (kk := ?_)
      refine r_iinc (pc' := 200) (v := v3 + 1) (lv2 := [(3, .int (v3 + 1)), (0, .ref 149), (2, .int v2)]) C dX9_surplus_197 rfl 2 rfl rfl (Nat.le_of_ble_eq_true rfl) rfl ?_
      refine r_goto (tgt := 178) C dX9_surplus_200 rfl ?_
      refine r_sub [1, 2, 0] rfl ?_
      exact ih _ _ _ _ h Z C hE
def X9_surplus_j171 (N : Nat)   (v2 : Int32) (σ : Sg) : Option (Int32 × Sg) :=
  bnS (wi σ 149 1 0) fun σ30 => X9_surplus_l178 N N v2 0 σ30
set_option maxRecDepth 100000 in
set_option maxHeartbeats 4000000 in
theorem X9_surplus_j171_ok {E : Ev}  {N : Nat}    {v2 : Int32} {σ : Sg} {r : Int32 × Sg} (h : X9_surplus_j171 N   v2 σ = some r) : Gp E RX9 cX9_surplus (some .int) 8 (7) SH0 r.2 (some (.int r.1)) σ 171 [(0, .ref 149), (2, .int v2)] [] := by
  intro Z C hE
  unfold X9_surplus_j171 at h
  refine r_aload_n (pc' := 172) C dX9_surplus_171 rfl 0 rfl ?_
  refine r_iconst (pc' := 173) C dX9_surplus_172 rfl kc_0 ?_
  obtain ⟨σ30, e31, h⟩ := bs h
  refine r_putI (pc' := 176) (σ1 := σ30) C fpX9_15 sh_149 rfl rfl rfl dX9_surplus_173 rfl e31 ?_
  refine r_iconst (pc' := 177) C dX9_surplus_176 rfl kc_0 ?_
  refine r_istore_n (pc' := 178) (lv2 := [(3, .int 0), (0, .ref 149), (2, .int v2)]) C dX9_surplus_177 rfl rfl (Nat.le_of_ble_eq_true rfl) rfl ?_
  refine r_sub [1, 2, 0] rfl ?_
  exact X9_surplus_l178_ok  N _ _ _ _ h Z C hE
def X9_surplus_j50 (N : Nat)   (v1 : Int32) (v2 : Int32) (σ : Sg) : Option (Int32 × Sg) :=
  X9_surplus_l52 N (fun v2 σ => X9_surplus_j171 N v2 σ) N v1 v2 0 σ
set_option maxRecDepth 100000 in
set_option maxHeartbeats 4000000 in
theorem X9_surplus_j50_ok {E : Ev}  {N : Nat}    {v1 : Int32} {v2 : Int32} {σ : Sg} {r : Int32 × Sg} (h : X9_surplus_j50 N   v1 v2 σ = some r) : Gp E RX9 cX9_surplus (some .int) 8 (7) SH0 r.2 (some (.int r.1)) σ 50 [(0, .ref 149), (1, .int v1), (2, .int v2)] [] := by
  intro Z C hE
  unfold X9_surplus_j50 at h
  refine r_iconst (pc' := 51) C dX9_surplus_50 rfl kc_0 ?_
  refine r_istore_n (pc' := 52) (lv2 := [(3, .int 0), (0, .ref 149), (1, .int v1), (2, .int v2)]) C dX9_surplus_51 rfl rfl (Nat.le_of_ble_eq_true rfl) rfl ?_
  refine r_sub [1, 2, 3, 0] rfl ?_
  exact X9_surplus_l52_ok  (fun _ _ _ h Z C hE => by exact X9_surplus_j171_ok  h Z C hE) N _ _ _ _ _ h Z C hE
def X9_surplus (N : Nat)   (σ : Sg) : Option (Int32 × Sg) :=
  bnS (wi σ 149 0 0) fun σ1 => (X9_firstOnes N 153 σ1).bind fun r3 => ((X9_floating N 153 σ1).bind fun r5 => (X9_surplus_l29 N (fun v1 v2 σ => X9_surplus_j50 N v1 v2 σ) N (r3 &&& (r5.1 ^^^ (-1))) 0 0 r5.2))
set_option maxRecDepth 100000 in
set_option maxHeartbeats 4000000 in
theorem X9_surplus_ok {E : Ev}  {N : Nat}  {σ : Sg} {r : Int32 × Sg} (h : X9_surplus N   σ = some r) : Cm E (7) yX9_surplus cX9_surplus 8 (some .int) [.ref 149] SH0 SH0 σ r.2 (some (.int r.1)) 0 0 := by
  refine Cm.intro (by decide +kernel) (Nat.le_of_ble_eq_true rfl) (fun _ h => by obtain ⟨_, _, _, _, _, _, h⟩ := h; exact h) (fun Z C hE => ?_)
  show Wm E Z 0 0 SH0 σ 0 [(0, .ref 149)] []
  unfold X9_surplus at h
  refine r_aload_n (pc' := 1) C dX9_surplus_0 rfl 0 rfl ?_
  refine r_iconst (pc' := 2) C dX9_surplus_1 rfl kc_0 ?_
  obtain ⟨σ1, e2, h⟩ := bs h
  refine r_putI (pc' := 5) (σ1 := σ1) C fpX9_3 sh_149 rfl rfl rfl dX9_surplus_2 rfl e2 ?_
  refine r_aload_n (pc' := 6) C dX9_surplus_5 rfl 0 rfl ?_
  refine r_aload_n (pc' := 7) C dX9_surplus_6 rfl 0 rfl ?_
  refine r_getR (pc' := 10) C flX9_34 sh_149 rfl dX9_surplus_7 rfl ?_
  obtain ⟨r3, e4, h⟩ := bd h
  refine r_cV1 (pc' := 13) C (X9_firstOnes_ok mac_153 e4) mlX9_359 ceX9_firstOnes cvX9_firstOnes sh_149 rfl rfl rfl (Nat.le_of_ble_eq_true rfl) rfl (Nat.le_of_ble_eq_true rfl) dX9_surplus_10 rfl (kk := ?_)
  refine r_aload_n (pc' := 14) C dX9_surplus_13 rfl 0 rfl ?_
  refine r_aload_n (pc' := 15) C dX9_surplus_14 rfl 0 rfl ?_
  refine r_getR (pc' := 18) C flX9_34 sh_149 rfl dX9_surplus_15 rfl ?_
  obtain ⟨r5, e6, h⟩ := bd h
  refine r_cV1 (pc' := 21) C (X9_floating_ok mac_153 e6) mlX9_303 ceX9_floating cvX9_floating sh_149 rfl rfl rfl (Nat.le_of_ble_eq_true rfl) rfl (Nat.le_of_ble_eq_true rfl) dX9_surplus_18 rfl (kk := ?_)
  refine r_iconst (pc' := 22) C dX9_surplus_21 rfl kc_m1 ?_
  refine r_ixor (pc' := 23) C dX9_surplus_22 rfl ?_
  refine r_iand (pc' := 24) C dX9_surplus_23 rfl ?_
  refine r_istore_n (pc' := 25) (lv2 := [(1, .int (r3 &&& (r5.1 ^^^ (-1)))), (0, .ref 149)]) C dX9_surplus_24 rfl rfl (Nat.le_of_ble_eq_true rfl) rfl ?_
  refine r_iconst (pc' := 26) C dX9_surplus_25 rfl kc_0 ?_
  refine r_istore_n (pc' := 27) (lv2 := [(2, .int 0), (1, .int (r3 &&& (r5.1 ^^^ (-1)))), (0, .ref 149)]) C dX9_surplus_26 rfl rfl (Nat.le_of_ble_eq_true rfl) rfl ?_
  refine r_iconst (pc' := 28) C dX9_surplus_27 rfl kc_0 ?_
  refine r_istore_n (pc' := 29) (lv2 := [(3, .int 0), (2, .int 0), (1, .int (r3 &&& (r5.1 ^^^ (-1)))), (0, .ref 149)]) C dX9_surplus_28 rfl rfl (Nat.le_of_ble_eq_true rfl) rfl ?_
  refine r_sub [3, 2, 1, 0] rfl ?_
  exact X9_surplus_l29_ok  (fun _ _ _ _ h Z C hE => by exact X9_surplus_j50_ok  h Z C hE) N _ _ _ _ _ h Z C hE

/-! BorrowedWeightModel.vital()I -/
def X9_vital_j144 (N : Nat)  (kr : Int32 → Int32 → Int32 → Int32 → Int32 → Int32 → Sg → Option (Int32 × Sg)) (v1 : Int32) (v2 : Int32) (v3 : Int32) (v5 : Int32) (v6 : Int32) (v7 : Int32) (s0 : Int32) (σ : Sg) : Option (Int32 × Sg) :=
  (X9_flag N v7 σ).bind fun r22 => (kr v1 (v2 + r22) v3 s0 v5 (v6 + 1) σ)
set_option maxRecDepth 100000 in
set_option maxHeartbeats 4000000 in
theorem X9_vital_j144_ok {E : Ev}  {N : Nat} {kr : Int32 → Int32 → Int32 → Int32 → Int32 → Int32 → Sg → Option (Int32 × Sg)}  (hkr : ∀ (v1 : Int32) (v2 : Int32) (v3 : Int32) (v4 : Int32) (v5 : Int32) (v6 : Int32) (σ : Sg) (r : Int32 × Sg), kr v1 v2 v3 v4 v5 v6 σ = some r → Gp E RX9 cX9_vital (some .int) 8 (7) SH0 r.2 (some (.int r.1)) σ 50 [(0, .ref 149), (1, .int v1), (2, .int v2), (3, .int v3), (4, .int v4), (5, .int v5), (6, .int v6)] []) {v1 : Int32} {v2 : Int32} {v3 : Int32} {v5 : Int32} {v6 : Int32} {v7 : Int32} {s0 : Int32} {σ : Sg} {r : Int32 × Sg} (h : X9_vital_j144 N  kr v1 v2 v3 v5 v6 v7 s0 σ = some r) : Gp E RX9 cX9_vital (some .int) 8 (7) SH0 r.2 (some (.int r.1)) σ 144 [(0, .ref 149), (1, .int v1), (2, .int v2), (3, .int v3), (5, .int v5), (6, .int v6), (7, .int v7)] [.int s0] := by
  intro Z C hE
  unfold X9_vital_j144 at h
  refine r_istore (pc' := 146) (lv2 := [(4, .int s0), (0, .ref 149), (1, .int v1), (2, .int v2), (3, .int v3), (5, .int v5), (6, .int v6), (7, .int v7)]) C dX9_vital_144 rfl (Nat.le_of_ble_eq_true rfl) rfl ?_
  refine r_iload_n (pc' := 147) C dX9_vital_146 rfl 3 rfl ?_
  refine r_iload (pc' := 149) C dX9_vital_147 rfl 7 rfl ?_
  obtain ⟨r22, e23, h⟩ := bd h
  refine r_cS1 (pc' := 152) C (X9_flag_ok  e23) mlX9_159 ceX9_flag csX9_flag rfl (Nat.le_of_ble_eq_true rfl) rfl (Nat.le_of_ble_eq_true rfl) dX9_vital_149 rfl (kk := ?_)
  refine r_iadd (pc' := 153) C dX9_vital_152 rfl ?_
  refine r_istore_n (pc' := 154) (lv2 := [(2, .int (v2 + r22)), (4, .int s0), (0, .ref 149), (1, .int v1), (3, .int v3), (5, .int v5), (6, .int v6), (7, .int v7)]) C dX9_vital_153 rfl rfl (Nat.le_of_ble_eq_true rfl) rfl ?_
  refine r_iinc (pc' := 157) (v := v6 + 1) (lv2 := [(6, .int (v6 + 1)), (2, .int (v2 + r22)), (4, .int s0), (0, .ref 149), (1, .int v1), (3, .int v3), (5, .int v5), (7, .int v7)]) C dX9_vital_154 rfl 6 rfl rfl (Nat.le_of_ble_eq_true rfl) rfl ?_
  refine r_goto (tgt := 50) C dX9_vital_157 rfl ?_
  refine r_sub [3, 4, 1, 5, 2, 6, 0] rfl ?_
  exact hkr _ _ _ _ _ _ _ _ h Z C hE
def X9_vital_j127 (N : Nat)  (kr : Int32 → Int32 → Int32 → Int32 → Int32 → Int32 → Sg → Option (Int32 × Sg)) (v1 : Int32) (v2 : Int32) (v4 : Int32) (v5 : Int32) (v6 : Int32) (v7 : Int32) (s0 : Int32) (σ : Sg) : Option (Int32 × Sg) :=
  if v7 = 0 then (X9_vital_j144 N kr v1 v2 s0 v5 v6 v7 v4 σ) else (if v2 = 0 then (X9_vital_j144 N kr v1 v2 s0 v5 v6 v7 v6 σ) else (X9_vital_j144 N kr v1 v2 s0 v5 v6 v7 v4 σ))
set_option maxRecDepth 100000 in
set_option maxHeartbeats 4000000 in
theorem X9_vital_j127_ok {E : Ev}  {N : Nat} {kr : Int32 → Int32 → Int32 → Int32 → Int32 → Int32 → Sg → Option (Int32 × Sg)}  (hkr : ∀ (v1 : Int32) (v2 : Int32) (v3 : Int32) (v4 : Int32) (v5 : Int32) (v6 : Int32) (σ : Sg) (r : Int32 × Sg), kr v1 v2 v3 v4 v5 v6 σ = some r → Gp E RX9 cX9_vital (some .int) 8 (7) SH0 r.2 (some (.int r.1)) σ 50 [(0, .ref 149), (1, .int v1), (2, .int v2), (3, .int v3), (4, .int v4), (5, .int v5), (6, .int v6)] []) {v1 : Int32} {v2 : Int32} {v4 : Int32} {v5 : Int32} {v6 : Int32} {v7 : Int32} {s0 : Int32} {σ : Sg} {r : Int32 × Sg} (h : X9_vital_j127 N  kr v1 v2 v4 v5 v6 v7 s0 σ = some r) : Gp E RX9 cX9_vital (some .int) 8 (7) SH0 r.2 (some (.int r.1)) σ 127 [(0, .ref 149), (1, .int v1), (2, .int v2), (4, .int v4), (5, .int v5), (6, .int v6), (7, .int v7)] [.int s0] := by
  intro Z C hE
  unfold X9_vital_j127 at h
  refine r_istore_n (pc' := 128) (lv2 := [(3, .int s0), (0, .ref 149), (1, .int v1), (2, .int v2), (4, .int v4), (5, .int v5), (6, .int v6), (7, .int v7)]) C dX9_vital_127 rfl rfl (Nat.le_of_ble_eq_true rfl) rfl ?_
  refine r_iload (pc' := 130) C dX9_vital_128 rfl 7 rfl ?_
  refine r_if_eq (tgt := 142) (pc' := 133) C dX9_vital_130 rfl rfl (fun c21 => ?_) (fun c21 => ?_)
  · rw [if_pos c21] at h
    refine r_iload (pc' := 144) C dX9_vital_142 rfl 4 rfl ?_
    refine r_sub [1, 2, 3, 0, 5, 6, 7] rfl ?_
    exact X9_vital_j144_ok  hkr h Z C hE
  · rw [if_neg c21] at h
    refine r_iload_n (pc' := 134) C dX9_vital_133 rfl 3 rfl ?_
    refine r_if_ne (tgt := 142) (pc' := 137) C dX9_vital_134 rfl rfl (fun c24 => ?_) (fun c24 => ?_)
    · rw [if_neg c24] at h
      refine r_iload (pc' := 144) C dX9_vital_142 rfl 4 rfl ?_
      refine r_sub [1, 2, 3, 0, 5, 6, 7] rfl ?_
      exact X9_vital_j144_ok  hkr h Z C hE
    · rw [if_pos c24] at h
      refine r_iload (pc' := 139) C dX9_vital_137 rfl 6 rfl ?_
      refine r_goto (tgt := 144) C dX9_vital_139 rfl ?_
      refine r_sub [1, 2, 3, 0, 5, 6, 7] rfl ?_
      exact X9_vital_j144_ok  hkr h Z C hE
def X9_vital_j110 (N : Nat)  (kr : Int32 → Int32 → Int32 → Int32 → Int32 → Int32 → Sg → Option (Int32 × Sg)) (v1 : Int32) (v2 : Int32) (v3 : Int32) (v4 : Int32) (v5 : Int32) (v6 : Int32) (s0 : Int32) (σ : Sg) : Option (Int32 × Sg) :=
  if s0 = 0 then (X9_vital_j127 N kr v1 v2 v4 v5 v6 s0 v3 σ) else (if v2 = 0 then (X9_vital_j127 N kr v1 v2 v4 v5 v6 s0 v5 σ) else (X9_vital_j127 N kr v1 v2 v4 v5 v6 s0 v3 σ))
set_option maxRecDepth 100000 in
set_option maxHeartbeats 4000000 in
theorem X9_vital_j110_ok {E : Ev}  {N : Nat} {kr : Int32 → Int32 → Int32 → Int32 → Int32 → Int32 → Sg → Option (Int32 × Sg)}  (hkr : ∀ (v1 : Int32) (v2 : Int32) (v3 : Int32) (v4 : Int32) (v5 : Int32) (v6 : Int32) (σ : Sg) (r : Int32 × Sg), kr v1 v2 v3 v4 v5 v6 σ = some r → Gp E RX9 cX9_vital (some .int) 8 (7) SH0 r.2 (some (.int r.1)) σ 50 [(0, .ref 149), (1, .int v1), (2, .int v2), (3, .int v3), (4, .int v4), (5, .int v5), (6, .int v6)] []) {v1 : Int32} {v2 : Int32} {v3 : Int32} {v4 : Int32} {v5 : Int32} {v6 : Int32} {s0 : Int32} {σ : Sg} {r : Int32 × Sg} (h : X9_vital_j110 N  kr v1 v2 v3 v4 v5 v6 s0 σ = some r) : Gp E RX9 cX9_vital (some .int) 8 (7) SH0 r.2 (some (.int r.1)) σ 110 [(0, .ref 149), (1, .int v1), (2, .int v2), (3, .int v3), (4, .int v4), (5, .int v5), (6, .int v6)] [.int s0] := by
  intro Z C hE
  unfold X9_vital_j110 at h
  refine r_istore (pc' := 112) (lv2 := [(7, .int s0), (0, .ref 149), (1, .int v1), (2, .int v2), (3, .int v3), (4, .int v4), (5, .int v5), (6, .int v6)]) C dX9_vital_110 rfl (Nat.le_of_ble_eq_true rfl) rfl ?_
  refine r_iload (pc' := 114) C dX9_vital_112 rfl 0 rfl ?_
  refine r_if_eq (tgt := 126) (pc' := 117) C dX9_vital_114 rfl rfl (fun c20 => ?_) (fun c20 => ?_)
  · rw [if_pos c20] at h
    refine r_iload_n (pc' := 127) C dX9_vital_126 rfl 4 rfl ?_
    refine r_sub [1, 2, 3, 5, 6, 7, 0] rfl ?_
    exact X9_vital_j127_ok  hkr h Z C hE
  · rw [if_neg c20] at h
    refine r_iload_n (pc' := 118) C dX9_vital_117 rfl 3 rfl ?_
    refine r_if_ne (tgt := 126) (pc' := 121) C dX9_vital_118 rfl rfl (fun c25 => ?_) (fun c25 => ?_)
    · rw [if_neg c25] at h
      refine r_iload_n (pc' := 127) C dX9_vital_126 rfl 4 rfl ?_
      refine r_sub [1, 2, 3, 5, 6, 7, 0] rfl ?_
      exact X9_vital_j127_ok  hkr h Z C hE
    · rw [if_pos c25] at h
      refine r_iload (pc' := 123) C dX9_vital_121 rfl 6 rfl ?_
      refine r_goto (tgt := 127) C dX9_vital_123 rfl ?_
      refine r_sub [1, 2, 3, 5, 6, 7, 0] rfl ?_
      exact X9_vital_j127_ok  hkr h Z C hE
def X9_vital_l50 (N : Nat)  (k160 : Int32 → Int32 → Int32 → Int32 → Int32 → Sg → Option (Int32 × Sg))  : Nat → Int32 → Int32 → Int32 → Int32 → Int32 → Int32 → Sg → Option (Int32 × Sg)
  | 0, _, _, _, _, _, _, _ => none
  | n + 1, v1, v2, v3, v4, v5, v6, σ =>
    if (gi σ 149 3) ≤ v6 then (k160 v1 v2 v3 v4 v5 σ) else (if inb (24 + v5) 37 = true then (X9_has N (gi σ 153 (24 + v5).toNatClampNeg) v6 σ).bind fun r10 => (if r10 = 0 then (X9_vital_l50 N k160 n v1 v2 v3 v4 v5 (v6 + 1) σ) else ((X9_copies N σ).bind fun r13 => ((X9_toggles N 154 v5 v6 r13).bind fun r15 => ((X9_floating N 154 r15).bind fun r17 => (if (r17.1 &&& v1) = 0 then (X9_vital_j110 N (fun v1 v2 v3 v4 v5 v6 σ => X9_vital_l50 N k160 n v1 v2 v3 v4 v5 v6 σ) v1 v2 v3 v4 v5 v6 0 r17.2) else (X9_vital_j110 N (fun v1 v2 v3 v4 v5 v6 σ => X9_vital_l50 N k160 n v1 v2 v3 v4 v5 v6 σ) v1 v2 v3 v4 v5 v6 1 r17.2)))))) else none)
set_option maxRecDepth 100000 in
set_option maxHeartbeats 4000000 in
theorem X9_vital_l50_ok {E : Ev}  {N : Nat} {k160 : Int32 → Int32 → Int32 → Int32 → Int32 → Sg → Option (Int32 × Sg)}  (hk160 : ∀ (v1 : Int32) (v2 : Int32) (v3 : Int32) (v4 : Int32) (v5 : Int32) (σ : Sg) (r : Int32 × Sg), k160 v1 v2 v3 v4 v5 σ = some r → Gp E RX9 cX9_vital (some .int) 8 (7) SH0 r.2 (some (.int r.1)) σ 160 [(0, .ref 149), (1, .int v1), (2, .int v2), (3, .int v3), (4, .int v4), (5, .int v5)] []) : ∀ (n : Nat) (v1 : Int32) (v2 : Int32) (v3 : Int32) (v4 : Int32) (v5 : Int32) (v6 : Int32) (σ : Sg) (r : Int32 × Sg), X9_vital_l50 N k160 n v1 v2 v3 v4 v5 v6 σ = some r → Gp E RX9 cX9_vital (some .int) 8 (7) SH0 r.2 (some (.int r.1)) σ 50 [(0, .ref 149), (1, .int v1), (2, .int v2), (3, .int v3), (4, .int v4), (5, .int v5), (6, .int v6)] [] := by
  intro n
  induction n with
  | zero => intro v1 v2 v3 v4 v5 v6 σ r h; cases h
  | succ n ih =>
    intro v1 v2 v3 v4 v5 v6 σ r h Z C hE
    unfold X9_vital_l50 at h
    refine r_iload (pc' := 52) C dX9_vital_50 rfl 6 rfl ?_
    refine r_aload_n (pc' := 53) C dX9_vital_52 rfl 0 rfl ?_
    refine r_getI (pc' := 56) C flX9_116 sh_149 rfl dX9_vital_53 rfl ?_
    refine r_icmp_ge (tgt := 160) (pc' := 59) C dX9_vital_56 rfl rfl (fun c8 => ?_) (fun c8 => ?_)
    · rw [if_pos c8] at h
      refine r_sub [0, 1, 2, 3, 4, 5] rfl ?_
      exact hk160 _ _ _ _ _ _ _ h Z C hE
    · rw [if_neg c8] at h
      refine r_aload_n (pc' := 60) C dX9_vital_59 rfl 0 rfl ?_
      refine r_getR (pc' := 63) C flX9_34 sh_149 rfl dX9_vital_60 rfl ?_
      refine r_bipush (pc' := 65) C dX9_vital_63 rfl kb_24 ?_
      refine r_iload (pc' := 67) C dX9_vital_65 rfl 5 rfl ?_
      refine r_iadd (pc' := 68) C dX9_vital_67 rfl ?_
      obtain ⟨q9, h⟩ := ck h
      refine r_iald (pc' := 69) C sh_153 (vin q9) dX9_vital_68 rfl ?_
      refine r_iload (pc' := 71) C dX9_vital_69 rfl 6 rfl ?_
      obtain ⟨r10, e11, h⟩ := bd h
      refine r_cS1 (pc' := 74) C (X9_has_ok  e11) mlX9_127 ceX9_has csX9_has rfl (Nat.le_of_ble_eq_true rfl) rfl (Nat.le_of_ble_eq_true rfl) dX9_vital_71 rfl (kk := ?_)
      refine r_if_eq (tgt := 154) (pc' := 77) C dX9_vital_74 rfl rfl (fun c12 => ?_) (fun c12 => ?_)
      · rw [if_pos c12] at h
        refine r_iinc (pc' := 157) (v := v6 + 1) (lv2 := [(6, .int (v6 + 1)), (0, .ref 149), (1, .int v1), (2, .int v2), (3, .int v3), (4, .int v4), (5, .int v5)]) C dX9_vital_154 rfl 6 rfl rfl (Nat.le_of_ble_eq_true rfl) rfl ?_
        refine r_goto (tgt := 50) C dX9_vital_157 rfl ?_
        refine r_sub [1, 2, 3, 4, 5, 6, 0] rfl ?_
        exact ih _ _ _ _ _ _ _ _ h Z C hE
      · rw [if_neg c12] at h
        refine r_aload_n (pc' := 78) C dX9_vital_77 rfl 0 rfl ?_
        obtain ⟨r13, e14, h⟩ := bd h
        refine r_cV0 (pc' := 81) C (X9_copies_ok  e14) mlX9_362 ceX9_copies cvX9_copies sh_149 rfl rfl rfl (Nat.le_of_ble_eq_true rfl) rfl (Nat.le_of_ble_eq_true rfl) dX9_vital_78 rfl (kk := ?_)
        refine r_aload_n (pc' := 82) C dX9_vital_81 rfl 0 rfl ?_
        refine r_getR (pc' := 85) C flX9_37 sh_149 rfl dX9_vital_82 rfl ?_
        refine r_iload (pc' := 87) C dX9_vital_85 rfl 5 rfl ?_
        refine r_iload (pc' := 89) C dX9_vital_87 rfl 6 rfl ?_
        obtain ⟨r15, e16, h⟩ := bd h
        refine r_cS0 (pc' := 92) C (X9_toggles_ok mac_154 e16) mlX9_212 ceX9_toggles csX9_toggles rfl (Nat.le_of_ble_eq_true rfl) rfl (Nat.le_of_ble_eq_true rfl) dX9_vital_89 rfl (kk := ?_)
        refine r_aload_n (pc' := 93) C dX9_vital_92 rfl 0 rfl ?_
        refine r_aload_n (pc' := 94) C dX9_vital_93 rfl 0 rfl ?_
        refine r_getR (pc' := 97) C flX9_37 sh_149 rfl dX9_vital_94 rfl ?_
        obtain ⟨r17, e18, h⟩ := bd h
        refine r_cV1 (pc' := 100) C (X9_floating_ok mac_154 e18) mlX9_303 ceX9_floating cvX9_floating sh_149 rfl rfl rfl (Nat.le_of_ble_eq_true rfl) rfl (Nat.le_of_ble_eq_true rfl) dX9_vital_97 rfl (kk := ?_)
        refine r_iload_n (pc' := 101) C dX9_vital_100 rfl 1 rfl ?_
        refine r_iand (pc' := 102) C dX9_vital_101 rfl ?_
        refine r_if_eq (tgt := 109) (pc' := 105) C dX9_vital_102 rfl rfl (fun c19 => ?_) (fun c19 => ?_)
        · rw [if_pos c19] at h
          refine r_iconst (pc' := 110) C dX9_vital_109 rfl kc_0 ?_
          exact X9_vital_j110_ok  ih h Z C hE
        · rw [if_neg c19] at h
          refine r_iconst (pc' := 106) C dX9_vital_105 rfl kc_1 ?_
          refine r_goto (tgt := 110) C dX9_vital_106 rfl ?_
          exact X9_vital_j110_ok  ih h Z C hE
def X9_vital_j160 (N : Nat)  (kr : Int32 → Int32 → Int32 → Int32 → Int32 → Sg → Option (Int32 × Sg)) (v1 : Int32) (v2 : Int32) (v3 : Int32) (v4 : Int32) (v5 : Int32) (σ : Sg) : Option (Int32 × Sg) :=
  kr v1 v2 v3 v4 (v5 + 1) σ
set_option maxRecDepth 100000 in
set_option maxHeartbeats 4000000 in
theorem X9_vital_j160_ok {E : Ev}  {N : Nat} {kr : Int32 → Int32 → Int32 → Int32 → Int32 → Sg → Option (Int32 × Sg)}  (hkr : ∀ (v1 : Int32) (v2 : Int32) (v3 : Int32) (v4 : Int32) (v5 : Int32) (σ : Sg) (r : Int32 × Sg), kr v1 v2 v3 v4 v5 σ = some r → Gp E RX9 cX9_vital (some .int) 8 (7) SH0 r.2 (some (.int r.1)) σ 35 [(0, .ref 149), (1, .int v1), (2, .int v2), (3, .int v3), (4, .int v4), (5, .int v5)] []) {v1 : Int32} {v2 : Int32} {v3 : Int32} {v4 : Int32} {v5 : Int32} {σ : Sg} {r : Int32 × Sg} (h : X9_vital_j160 N  kr v1 v2 v3 v4 v5 σ = some r) : Gp E RX9 cX9_vital (some .int) 8 (7) SH0 r.2 (some (.int r.1)) σ 160 [(0, .ref 149), (1, .int v1), (2, .int v2), (3, .int v3), (4, .int v4), (5, .int v5)] [] := by
  intro Z C hE
  unfold X9_vital_j160 at h
  refine r_iinc (pc' := 163) (v := v5 + 1) (lv2 := [(5, .int (v5 + 1)), (0, .ref 149), (1, .int v1), (2, .int v2), (3, .int v3), (4, .int v4)]) C dX9_vital_160 rfl 5 rfl rfl (Nat.le_of_ble_eq_true rfl) rfl ?_
  refine r_goto (tgt := 35) C dX9_vital_163 rfl ?_
  refine r_sub [1, 2, 3, 4, 5, 0] rfl ?_
  exact hkr _ _ _ _ _ _ _ h Z C hE
def X9_vital_l35 (N : Nat)  (k166 : Int32 → Int32 → Int32 → Sg → Option (Int32 × Sg))  : Nat → Int32 → Int32 → Int32 → Int32 → Int32 → Sg → Option (Int32 × Sg)
  | 0, _, _, _, _, _, _ => none
  | n + 1, v1, v2, v3, v4, v5, σ =>
    if (gi σ 149 3) ≤ v5 then (k166 v2 v3 v4 σ) else (X9_vital_l50 N (fun v1 v2 v3 v4 v5 σ => X9_vital_j160 N (fun v1 v2 v3 v4 v5 σ => X9_vital_l35 N k166 n v1 v2 v3 v4 v5 σ) v1 v2 v3 v4 v5 σ) N v1 v2 v3 v4 v5 (v5 + 1) σ)
set_option maxRecDepth 100000 in
set_option maxHeartbeats 4000000 in
theorem X9_vital_l35_ok {E : Ev}  {N : Nat} {k166 : Int32 → Int32 → Int32 → Sg → Option (Int32 × Sg)}  (hk166 : ∀ (v2 : Int32) (v3 : Int32) (v4 : Int32) (σ : Sg) (r : Int32 × Sg), k166 v2 v3 v4 σ = some r → Gp E RX9 cX9_vital (some .int) 8 (7) SH0 r.2 (some (.int r.1)) σ 166 [(0, .ref 149), (2, .int v2), (3, .int v3), (4, .int v4)] []) : ∀ (n : Nat) (v1 : Int32) (v2 : Int32) (v3 : Int32) (v4 : Int32) (v5 : Int32) (σ : Sg) (r : Int32 × Sg), X9_vital_l35 N k166 n v1 v2 v3 v4 v5 σ = some r → Gp E RX9 cX9_vital (some .int) 8 (7) SH0 r.2 (some (.int r.1)) σ 35 [(0, .ref 149), (1, .int v1), (2, .int v2), (3, .int v3), (4, .int v4), (5, .int v5)] [] := by
  intro n
  induction n with
  | zero => intro v1 v2 v3 v4 v5 σ r h; cases h
  | succ n ih =>
    intro v1 v2 v3 v4 v5 σ r h Z C hE
    unfold X9_vital_l35 at h
    refine r_iload (pc' := 37) C dX9_vital_35 rfl 5 rfl ?_
    refine r_aload_n (pc' := 38) C dX9_vital_37 rfl 0 rfl ?_
    refine r_getI (pc' := 41) C flX9_116 sh_149 rfl dX9_vital_38 rfl ?_
    refine r_icmp_ge (tgt := 166) (pc' := 44) C dX9_vital_41 rfl rfl (fun c7 => ?_) (fun c7 => ?_)
    · rw [if_pos c7] at h
      refine r_sub [0, 2, 3, 4] rfl ?_
      exact hk166 _ _ _ _ _ h Z C hE
    · rw [if_neg c7] at h
      refine r_iload (pc' := 46) C dX9_vital_44 rfl 5 rfl ?_
      refine r_iconst (pc' := 47) C dX9_vital_46 rfl kc_1 ?_
      refine r_iadd (pc' := 48) C dX9_vital_47 rfl ?_
      refine r_istore (pc' := 50) (lv2 := [(6, .int (v5 + 1)), (0, .ref 149), (1, .int v1), (2, .int v2), (3, .int v3), (4, .int v4), (5, .int v5)]) C dX9_vital_48 rfl (Nat.le_of_ble_eq_true rfl) rfl ?_
      refine r_sub [1, 2, 3, 4, 5, 6, 0] rfl ?_
      exact X9_vital_l50_ok  (fun _ _ _ _ _ _ _ h Z C hE => by exact X9_vital_j160_ok  ih h Z C hE) N _ _ _ _ _ _ _ _ h Z C hE
def X9_vital_j166 (N : Nat)   (v2 : Int32) (v3 : Int32) (v4 : Int32) (σ : Sg) : Option (Int32 × Sg) :=
  bnS (wi σ 149 1 0) fun σ26 => (X9_stringMany N 153 σ26).bind fun r28 => ((X9_enters N r28.toInt64 σ26).bind fun r30 => (if v2 ≤ 0 then (some (v2, r30)) else ((X9_enters N v3.toInt64 r30).bind fun r33 => ((X9_enters N v4.toInt64 r33).bind fun r35 => (some (v2, r35))))))
set_option maxRecDepth 100000 in
set_option maxHeartbeats 4000000 in
theorem X9_vital_j166_ok {E : Ev}  {N : Nat}    {v2 : Int32} {v3 : Int32} {v4 : Int32} {σ : Sg} {r : Int32 × Sg} (h : X9_vital_j166 N   v2 v3 v4 σ = some r) : Gp E RX9 cX9_vital (some .int) 8 (7) SH0 r.2 (some (.int r.1)) σ 166 [(0, .ref 149), (2, .int v2), (3, .int v3), (4, .int v4)] [] := by
  intro Z C hE
  unfold X9_vital_j166 at h
  refine r_aload_n (pc' := 167) C dX9_vital_166 rfl 0 rfl ?_
  refine r_iconst (pc' := 168) C dX9_vital_167 rfl kc_0 ?_
  obtain ⟨σ26, e27, h⟩ := bs h
  refine r_putI (pc' := 171) (σ1 := σ26) C fpX9_15 sh_149 rfl rfl rfl dX9_vital_168 rfl e27 ?_
  refine r_aload_n (pc' := 172) C dX9_vital_171 rfl 0 rfl ?_
  refine r_aload_n (pc' := 173) C dX9_vital_172 rfl 0 rfl ?_
  refine r_aload_n (pc' := 174) C dX9_vital_173 rfl 0 rfl ?_
  refine r_getR (pc' := 177) C flX9_34 sh_149 rfl dX9_vital_174 rfl ?_
  obtain ⟨r28, e29, h⟩ := bd h
  refine r_cV1 (pc' := 180) C (X9_stringMany_ok mac_153 e29) mlX9_319 ceX9_stringMany cvX9_stringMany sh_149 rfl rfl rfl (Nat.le_of_ble_eq_true rfl) rfl (Nat.le_of_ble_eq_true rfl) dX9_vital_177 rfl (kk := ?_)
  refine r_i2l (pc' := 181) C dX9_vital_180 rfl rfl ?_
  obtain ⟨r30, e31, h⟩ := bd h
  refine r_cV0 (pc' := 184) C (X9_enters_ok  e31) mlX9_327 ceX9_enters cvX9_enters sh_149 rfl rfl rfl (Nat.le_of_ble_eq_true rfl) rfl (Nat.le_of_ble_eq_true rfl) dX9_vital_181 rfl (kk := ?_)
  refine r_iload_n (pc' := 185) C dX9_vital_184 rfl 1 rfl ?_
  refine r_if_le (tgt := 201) (pc' := 188) C dX9_vital_185 rfl rfl (fun c32 => ?_) (fun c32 => ?_)
  · rw [if_pos c32] at h
    refine r_iload_n (pc' := 202) C dX9_vital_201 rfl 1 rfl ?_
    have h := Option.some.inj h
    subst h
    exact r_ret C rfl dX9_vital_202 hE
  · rw [if_neg c32] at h
    refine r_aload_n (pc' := 189) C dX9_vital_188 rfl 0 rfl ?_
    refine r_iload_n (pc' := 190) C dX9_vital_189 rfl 2 rfl ?_
    refine r_i2l (pc' := 191) C dX9_vital_190 rfl rfl ?_
    obtain ⟨r33, e34, h⟩ := bd h
    refine r_cV0 (pc' := 194) C (X9_enters_ok  e34) mlX9_327 ceX9_enters cvX9_enters sh_149 rfl rfl rfl (Nat.le_of_ble_eq_true rfl) rfl (Nat.le_of_ble_eq_true rfl) dX9_vital_191 rfl (kk := ?_)
    refine r_aload_n (pc' := 195) C dX9_vital_194 rfl 0 rfl ?_
    refine r_iload (pc' := 197) C dX9_vital_195 rfl 3 rfl ?_
    refine r_i2l (pc' := 198) C dX9_vital_197 rfl rfl ?_
    obtain ⟨r35, e36, h⟩ := bd h
    refine r_cV0 (pc' := 201) C (X9_enters_ok  e36) mlX9_327 ceX9_enters cvX9_enters sh_149 rfl rfl rfl (Nat.le_of_ble_eq_true rfl) rfl (Nat.le_of_ble_eq_true rfl) dX9_vital_198 rfl (kk := ?_)
    refine r_iload_n (pc' := 202) C dX9_vital_201 rfl 1 rfl ?_
    have h := Option.some.inj h
    subst h
    exact r_ret C rfl dX9_vital_202 hE
def X9_vital (N : Nat)   (σ : Sg) : Option (Int32 × Sg) :=
  bnS (wi σ 149 0 0) fun σ1 => (X9_here N 153 σ1).bind fun r3 => ((X9_floating N 153 σ1).bind fun r5 => (X9_vital_l35 N (fun v2 v3 v4 σ => X9_vital_j166 N v2 v3 v4 σ) N (r3 &&& (r5.1 ^^^ (-1))) 0 (-1) (-1) 0 r5.2))
set_option maxRecDepth 100000 in
set_option maxHeartbeats 4000000 in
theorem X9_vital_ok {E : Ev}  {N : Nat}  {σ : Sg} {r : Int32 × Sg} (h : X9_vital N   σ = some r) : Cm E (7) yX9_vital cX9_vital 8 (some .int) [.ref 149] SH0 SH0 σ r.2 (some (.int r.1)) 0 0 := by
  refine Cm.intro (by decide +kernel) (Nat.le_of_ble_eq_true rfl) (fun _ h => by obtain ⟨_, _, _, _, _, _, h⟩ := h; exact h) (fun Z C hE => ?_)
  show Wm E Z 0 0 SH0 σ 0 [(0, .ref 149)] []
  unfold X9_vital at h
  refine r_aload_n (pc' := 1) C dX9_vital_0 rfl 0 rfl ?_
  refine r_iconst (pc' := 2) C dX9_vital_1 rfl kc_0 ?_
  obtain ⟨σ1, e2, h⟩ := bs h
  refine r_putI (pc' := 5) (σ1 := σ1) C fpX9_3 sh_149 rfl rfl rfl dX9_vital_2 rfl e2 ?_
  refine r_aload_n (pc' := 6) C dX9_vital_5 rfl 0 rfl ?_
  refine r_aload_n (pc' := 7) C dX9_vital_6 rfl 0 rfl ?_
  refine r_getR (pc' := 10) C flX9_34 sh_149 rfl dX9_vital_7 rfl ?_
  obtain ⟨r3, e4, h⟩ := bd h
  refine r_cV1 (pc' := 13) C (X9_here_ok mac_153 e4) mlX9_307 ceX9_here cvX9_here sh_149 rfl rfl rfl (Nat.le_of_ble_eq_true rfl) rfl (Nat.le_of_ble_eq_true rfl) dX9_vital_10 rfl (kk := ?_)
  refine r_aload_n (pc' := 14) C dX9_vital_13 rfl 0 rfl ?_
  refine r_aload_n (pc' := 15) C dX9_vital_14 rfl 0 rfl ?_
  refine r_getR (pc' := 18) C flX9_34 sh_149 rfl dX9_vital_15 rfl ?_
  obtain ⟨r5, e6, h⟩ := bd h
  refine r_cV1 (pc' := 21) C (X9_floating_ok mac_153 e6) mlX9_303 ceX9_floating cvX9_floating sh_149 rfl rfl rfl (Nat.le_of_ble_eq_true rfl) rfl (Nat.le_of_ble_eq_true rfl) dX9_vital_18 rfl (kk := ?_)
  refine r_iconst (pc' := 22) C dX9_vital_21 rfl kc_m1 ?_
  refine r_ixor (pc' := 23) C dX9_vital_22 rfl ?_
  refine r_iand (pc' := 24) C dX9_vital_23 rfl ?_
  refine r_istore_n (pc' := 25) (lv2 := [(1, .int (r3 &&& (r5.1 ^^^ (-1)))), (0, .ref 149)]) C dX9_vital_24 rfl rfl (Nat.le_of_ble_eq_true rfl) rfl ?_
  refine r_iconst (pc' := 26) C dX9_vital_25 rfl kc_0 ?_
  refine r_istore_n (pc' := 27) (lv2 := [(2, .int 0), (1, .int (r3 &&& (r5.1 ^^^ (-1)))), (0, .ref 149)]) C dX9_vital_26 rfl rfl (Nat.le_of_ble_eq_true rfl) rfl ?_
  refine r_iconst (pc' := 28) C dX9_vital_27 rfl kc_m1 ?_
  refine r_istore_n (pc' := 29) (lv2 := [(3, .int (-1)), (2, .int 0), (1, .int (r3 &&& (r5.1 ^^^ (-1)))), (0, .ref 149)]) C dX9_vital_28 rfl rfl (Nat.le_of_ble_eq_true rfl) rfl ?_
  refine r_iconst (pc' := 30) C dX9_vital_29 rfl kc_m1 ?_
  refine r_istore (pc' := 32) (lv2 := [(4, .int (-1)), (3, .int (-1)), (2, .int 0), (1, .int (r3 &&& (r5.1 ^^^ (-1)))), (0, .ref 149)]) C dX9_vital_30 rfl (Nat.le_of_ble_eq_true rfl) rfl ?_
  refine r_iconst (pc' := 33) C dX9_vital_32 rfl kc_0 ?_
  refine r_istore (pc' := 35) (lv2 := [(5, .int 0), (4, .int (-1)), (3, .int (-1)), (2, .int 0), (1, .int (r3 &&& (r5.1 ^^^ (-1)))), (0, .ref 149)]) C dX9_vital_33 rfl (Nat.le_of_ble_eq_true rfl) rfl ?_
  refine r_sub [5, 4, 3, 2, 1, 0] rfl ?_
  exact X9_vital_l35_ok  (fun _ _ _ _ _ h Z C hE => by exact X9_vital_j166_ok  h Z C hE) N _ _ _ _ _ _ _ h Z C hE

/-! BorrowedWeightModel.tie()I -/
def X9_tie_j137 (N : Nat)  (kr : Int32 → Int32 → Int32 → Int32 → Int32 → Sg → Option (Int32 × Sg)) (v1 : Int32) (v3 : Int32) (v4 : Int32) (v5 : Int32) (v6 : Int32) (s0 : Int32) (σ : Sg) : Option (Int32 × Sg) :=
  (J9_min_7cf53 N v3 v6 σ).bind fun r25 => (kr v1 s0 r25 v4 (v5 + 1) σ)
set_option maxRecDepth 100000 in
set_option maxHeartbeats 4000000 in
theorem X9_tie_j137_ok {E : Ev}  {N : Nat} {kr : Int32 → Int32 → Int32 → Int32 → Int32 → Sg → Option (Int32 × Sg)}  (hkr : ∀ (v1 : Int32) (v2 : Int32) (v3 : Int32) (v4 : Int32) (v5 : Int32) (σ : Sg) (r : Int32 × Sg), kr v1 v2 v3 v4 v5 σ = some r → Gp E RX9 cX9_tie (some .int) 7 (7) SH0 r.2 (some (.int r.1)) σ 31 [(0, .ref 149), (1, .int v1), (2, .int v2), (3, .int v3), (4, .int v4), (5, .int v5)] []) {v1 : Int32} {v3 : Int32} {v4 : Int32} {v5 : Int32} {v6 : Int32} {s0 : Int32} {σ : Sg} {r : Int32 × Sg} (h : X9_tie_j137 N  kr v1 v3 v4 v5 v6 s0 σ = some r) : Gp E RX9 cX9_tie (some .int) 7 (7) SH0 r.2 (some (.int r.1)) σ 137 [(0, .ref 149), (1, .int v1), (3, .int v3), (4, .int v4), (5, .int v5), (6, .int v6)] [.int s0] := by
  intro Z C hE
  unfold X9_tie_j137 at h
  refine r_istore_n (pc' := 138) (lv2 := [(2, .int s0), (0, .ref 149), (1, .int v1), (3, .int v3), (4, .int v4), (5, .int v5), (6, .int v6)]) C dX9_tie_137 rfl rfl (Nat.le_of_ble_eq_true rfl) rfl ?_
  refine r_iload_n (pc' := 139) C dX9_tie_138 rfl 3 rfl ?_
  refine r_iload (pc' := 141) C dX9_tie_139 rfl 6 rfl ?_
  obtain ⟨r25, e26, h⟩ := bd h
  refine r_cS1 (pc' := 144) C (J9_min_7cf53_ok  e26) mlX9_150 ceJ9_min_7cf53 csJ9_min_7cf53 rfl (Nat.le_of_ble_eq_true rfl) rfl (Nat.le_of_ble_eq_true rfl) dX9_tie_141 rfl (kk := ?_)
  refine r_istore_n (pc' := 145) (lv2 := [(3, .int r25), (2, .int s0), (0, .ref 149), (1, .int v1), (4, .int v4), (5, .int v5), (6, .int v6)]) C dX9_tie_144 rfl rfl (Nat.le_of_ble_eq_true rfl) rfl ?_
  refine r_iinc (pc' := 148) (v := v5 + 1) (lv2 := [(5, .int (v5 + 1)), (3, .int r25), (2, .int s0), (0, .ref 149), (1, .int v1), (4, .int v4), (6, .int v6)]) C dX9_tie_145 rfl 5 rfl rfl (Nat.le_of_ble_eq_true rfl) rfl ?_
  refine r_goto (tgt := 31) C dX9_tie_148 rfl ?_
  refine r_sub [3, 4, 2, 1, 5, 0] rfl ?_
  exact hkr _ _ _ _ _ _ _ h Z C hE
def X9_tie_j124 (N : Nat)  (kr : Int32 → Int32 → Int32 → Int32 → Int32 → Sg → Option (Int32 × Sg)) (v2 : Int32) (v3 : Int32) (v4 : Int32) (v5 : Int32) (v6 : Int32) (s0 : Int32) (σ : Sg) : Option (Int32 × Sg) :=
  if v3 ≤ v6 then (X9_tie_j137 N kr s0 v3 v4 v5 v6 v2 σ) else (X9_tie_j137 N kr s0 v3 v4 v5 v6 v5 σ)
set_option maxRecDepth 100000 in
set_option maxHeartbeats 4000000 in
theorem X9_tie_j124_ok {E : Ev}  {N : Nat} {kr : Int32 → Int32 → Int32 → Int32 → Int32 → Sg → Option (Int32 × Sg)}  (hkr : ∀ (v1 : Int32) (v2 : Int32) (v3 : Int32) (v4 : Int32) (v5 : Int32) (σ : Sg) (r : Int32 × Sg), kr v1 v2 v3 v4 v5 σ = some r → Gp E RX9 cX9_tie (some .int) 7 (7) SH0 r.2 (some (.int r.1)) σ 31 [(0, .ref 149), (1, .int v1), (2, .int v2), (3, .int v3), (4, .int v4), (5, .int v5)] []) {v2 : Int32} {v3 : Int32} {v4 : Int32} {v5 : Int32} {v6 : Int32} {s0 : Int32} {σ : Sg} {r : Int32 × Sg} (h : X9_tie_j124 N  kr v2 v3 v4 v5 v6 s0 σ = some r) : Gp E RX9 cX9_tie (some .int) 7 (7) SH0 r.2 (some (.int r.1)) σ 124 [(0, .ref 149), (2, .int v2), (3, .int v3), (4, .int v4), (5, .int v5), (6, .int v6)] [.int s0] := by
  intro Z C hE
  unfold X9_tie_j124 at h
  refine r_istore_n (pc' := 125) (lv2 := [(1, .int s0), (0, .ref 149), (2, .int v2), (3, .int v3), (4, .int v4), (5, .int v5), (6, .int v6)]) C dX9_tie_124 rfl rfl (Nat.le_of_ble_eq_true rfl) rfl ?_
  refine r_iload (pc' := 127) C dX9_tie_125 rfl 6 rfl ?_
  refine r_iload_n (pc' := 128) C dX9_tie_127 rfl 3 rfl ?_
  refine r_icmp_ge (tgt := 136) (pc' := 131) C dX9_tie_128 rfl rfl (fun c24 => ?_) (fun c24 => ?_)
  · rw [if_pos c24] at h
    refine r_iload_n (pc' := 137) C dX9_tie_136 rfl 2 rfl ?_
    refine r_sub [1, 0, 3, 4, 5, 6] rfl ?_
    exact X9_tie_j137_ok  hkr h Z C hE
  · rw [if_neg c24] at h
    refine r_iload (pc' := 133) C dX9_tie_131 rfl 5 rfl ?_
    refine r_goto (tgt := 137) C dX9_tie_133 rfl ?_
    refine r_sub [1, 0, 3, 4, 5, 6] rfl ?_
    exact X9_tie_j137_ok  hkr h Z C hE
def X9_tie_l31 (N : Nat)  (k151 : Int32 → Int32 → Int32 → Int32 → Sg → Option (Int32 × Sg))  : Nat → Int32 → Int32 → Int32 → Int32 → Int32 → Sg → Option (Int32 × Sg)
  | 0, _, _, _, _, _, _ => none
  | n + 1, v1, v2, v3, v4, v5, σ =>
    if (gi σ 149 3) ≤ v5 then (k151 v1 v2 v3 v4 σ) else ((X9_isHere N 153 v4 σ).bind fun r5 => (if r5 = 0 then (X9_tie_l31 N k151 n v1 v2 v3 v4 (v5 + 1) σ) else ((X9_isHere N 153 v5 σ).bind fun r8 => (if r8 = 0 then (X9_tie_l31 N k151 n v1 v2 v3 v4 (v5 + 1) σ) else (if inb (24 + v4) 37 = true then (X9_has N (gi σ 153 (24 + v4).toNatClampNeg) v5 σ).bind fun r12 => (if r12 = 0 then ((X9_copies N σ).bind fun r15 => ((X9_toggles N 154 v4 v5 r15).bind fun r17 => ((X9_floating N 154 r17).bind fun r19 => ((J6_bitCount_0f7a4 N r19.1 r19.2).bind fun r21 => (if v3 ≤ r21 then (X9_tie_j124 N (fun v1 v2 v3 v4 v5 σ => X9_tie_l31 N k151 n v1 v2 v3 v4 v5 σ) v2 v3 v4 v5 r21 v1 r19.2) else (X9_tie_j124 N (fun v1 v2 v3 v4 v5 σ => X9_tie_l31 N k151 n v1 v2 v3 v4 v5 σ) v2 v3 v4 v5 r21 v4 r19.2)))))) else (X9_tie_l31 N k151 n v1 v2 v3 v4 (v5 + 1) σ)) else none)))))
set_option maxRecDepth 100000 in
set_option maxHeartbeats 4000000 in
theorem X9_tie_l31_ok {E : Ev}  {N : Nat} {k151 : Int32 → Int32 → Int32 → Int32 → Sg → Option (Int32 × Sg)}  (hk151 : ∀ (v1 : Int32) (v2 : Int32) (v3 : Int32) (v4 : Int32) (σ : Sg) (r : Int32 × Sg), k151 v1 v2 v3 v4 σ = some r → Gp E RX9 cX9_tie (some .int) 7 (7) SH0 r.2 (some (.int r.1)) σ 151 [(0, .ref 149), (1, .int v1), (2, .int v2), (3, .int v3), (4, .int v4)] []) : ∀ (n : Nat) (v1 : Int32) (v2 : Int32) (v3 : Int32) (v4 : Int32) (v5 : Int32) (σ : Sg) (r : Int32 × Sg), X9_tie_l31 N k151 n v1 v2 v3 v4 v5 σ = some r → Gp E RX9 cX9_tie (some .int) 7 (7) SH0 r.2 (some (.int r.1)) σ 31 [(0, .ref 149), (1, .int v1), (2, .int v2), (3, .int v3), (4, .int v4), (5, .int v5)] [] := by
  intro n
  induction n with
  | zero => intro v1 v2 v3 v4 v5 σ r h; cases h
  | succ n ih =>
    intro v1 v2 v3 v4 v5 σ r h Z C hE
    unfold X9_tie_l31 at h
    refine r_iload (pc' := 33) C dX9_tie_31 rfl 5 rfl ?_
    refine r_aload_n (pc' := 34) C dX9_tie_33 rfl 0 rfl ?_
    refine r_getI (pc' := 37) C flX9_116 sh_149 rfl dX9_tie_34 rfl ?_
    refine r_icmp_ge (tgt := 151) (pc' := 40) C dX9_tie_37 rfl rfl (fun c4 => ?_) (fun c4 => ?_)
    · rw [if_pos c4] at h
      refine r_sub [0, 1, 2, 3, 4] rfl ?_
      exact hk151 _ _ _ _ _ _ h Z C hE
    · rw [if_neg c4] at h
      refine r_aload_n (pc' := 41) C dX9_tie_40 rfl 0 rfl ?_
      refine r_aload_n (pc' := 42) C dX9_tie_41 rfl 0 rfl ?_
      refine r_getR (pc' := 45) C flX9_34 sh_149 rfl dX9_tie_42 rfl ?_
      refine r_iload (pc' := 47) C dX9_tie_45 rfl 4 rfl ?_
      obtain ⟨r5, e6, h⟩ := bd h
      refine r_cV1 (pc' := 50) C (X9_isHere_ok mac_153 e6) mlX9_202 ceX9_isHere cvX9_isHere sh_149 rfl rfl rfl (Nat.le_of_ble_eq_true rfl) rfl (Nat.le_of_ble_eq_true rfl) dX9_tie_47 rfl (kk := ?_)
      refine r_if_eq (tgt := 145) (pc' := 53) C dX9_tie_50 rfl rfl (fun c7 => ?_) (fun c7 => ?_)
      · rw [if_pos c7] at h
        refine r_iinc (pc' := 148) (v := v5 + 1) (lv2 := [(5, .int (v5 + 1)), (0, .ref 149), (1, .int v1), (2, .int v2), (3, .int v3), (4, .int v4)]) C dX9_tie_145 rfl 5 rfl rfl (Nat.le_of_ble_eq_true rfl) rfl ?_
        refine r_goto (tgt := 31) C dX9_tie_148 rfl ?_
        refine r_sub [1, 2, 3, 4, 5, 0] rfl ?_
        exact ih _ _ _ _ _ _ _ h Z C hE
      · rw [if_neg c7] at h
        refine r_aload_n (pc' := 54) C dX9_tie_53 rfl 0 rfl ?_
        refine r_aload_n (pc' := 55) C dX9_tie_54 rfl 0 rfl ?_
        refine r_getR (pc' := 58) C flX9_34 sh_149 rfl dX9_tie_55 rfl ?_
        refine r_iload (pc' := 60) C dX9_tie_58 rfl 5 rfl ?_
        obtain ⟨r8, e9, h⟩ := bd h
        refine r_cV1 (pc' := 63) C (X9_isHere_ok mac_153 e9) mlX9_202 ceX9_isHere cvX9_isHere sh_149 rfl rfl rfl (Nat.le_of_ble_eq_true rfl) rfl (Nat.le_of_ble_eq_true rfl) dX9_tie_60 rfl (kk := ?_)
        refine r_if_eq (tgt := 145) (pc' := 66) C dX9_tie_63 rfl rfl (fun c10 => ?_) (fun c10 => ?_)
        · rw [if_pos c10] at h
          refine r_iinc (pc' := 148) (v := v5 + 1) (lv2 := [(5, .int (v5 + 1)), (0, .ref 149), (1, .int v1), (2, .int v2), (3, .int v3), (4, .int v4)]) C dX9_tie_145 rfl 5 rfl rfl (Nat.le_of_ble_eq_true rfl) rfl ?_
          refine r_goto (tgt := 31) C dX9_tie_148 rfl ?_
          refine r_sub [1, 2, 3, 4, 5, 0] rfl ?_
          exact ih _ _ _ _ _ _ _ h Z C hE
        · rw [if_neg c10] at h
          refine r_aload_n (pc' := 67) C dX9_tie_66 rfl 0 rfl ?_
          refine r_getR (pc' := 70) C flX9_34 sh_149 rfl dX9_tie_67 rfl ?_
          refine r_bipush (pc' := 72) C dX9_tie_70 rfl kb_24 ?_
          refine r_iload (pc' := 74) C dX9_tie_72 rfl 4 rfl ?_
          refine r_iadd (pc' := 75) C dX9_tie_74 rfl ?_
          obtain ⟨q11, h⟩ := ck h
          refine r_iald (pc' := 76) C sh_153 (vin q11) dX9_tie_75 rfl ?_
          refine r_iload (pc' := 78) C dX9_tie_76 rfl 5 rfl ?_
          obtain ⟨r12, e13, h⟩ := bd h
          refine r_cS1 (pc' := 81) C (X9_has_ok  e13) mlX9_127 ceX9_has csX9_has rfl (Nat.le_of_ble_eq_true rfl) rfl (Nat.le_of_ble_eq_true rfl) dX9_tie_78 rfl (kk := ?_)
          refine r_if_ne (tgt := 145) (pc' := 84) C dX9_tie_81 rfl rfl (fun c14 => ?_) (fun c14 => ?_)
          · rw [if_neg c14] at h
            refine r_iinc (pc' := 148) (v := v5 + 1) (lv2 := [(5, .int (v5 + 1)), (0, .ref 149), (1, .int v1), (2, .int v2), (3, .int v3), (4, .int v4)]) C dX9_tie_145 rfl 5 rfl rfl (Nat.le_of_ble_eq_true rfl) rfl ?_
            refine r_goto (tgt := 31) C dX9_tie_148 rfl ?_
            refine r_sub [1, 2, 3, 4, 5, 0] rfl ?_
            exact ih _ _ _ _ _ _ _ h Z C hE
          · rw [if_pos c14] at h
            refine r_aload_n (pc' := 85) C dX9_tie_84 rfl 0 rfl ?_
            obtain ⟨r15, e16, h⟩ := bd h
            refine r_cV0 (pc' := 88) C (X9_copies_ok  e16) mlX9_362 ceX9_copies cvX9_copies sh_149 rfl rfl rfl (Nat.le_of_ble_eq_true rfl) rfl (Nat.le_of_ble_eq_true rfl) dX9_tie_85 rfl (kk := ?_)
            refine r_aload_n (pc' := 89) C dX9_tie_88 rfl 0 rfl ?_
            refine r_getR (pc' := 92) C flX9_37 sh_149 rfl dX9_tie_89 rfl ?_
            refine r_iload (pc' := 94) C dX9_tie_92 rfl 4 rfl ?_
            refine r_iload (pc' := 96) C dX9_tie_94 rfl 5 rfl ?_
            obtain ⟨r17, e18, h⟩ := bd h
            refine r_cS0 (pc' := 99) C (X9_toggles_ok mac_154 e18) mlX9_212 ceX9_toggles csX9_toggles rfl (Nat.le_of_ble_eq_true rfl) rfl (Nat.le_of_ble_eq_true rfl) dX9_tie_96 rfl (kk := ?_)
            refine r_aload_n (pc' := 100) C dX9_tie_99 rfl 0 rfl ?_
            refine r_aload_n (pc' := 101) C dX9_tie_100 rfl 0 rfl ?_
            refine r_getR (pc' := 104) C flX9_37 sh_149 rfl dX9_tie_101 rfl ?_
            obtain ⟨r19, e20, h⟩ := bd h
            refine r_cV1 (pc' := 107) C (X9_floating_ok mac_154 e20) mlX9_303 ceX9_floating cvX9_floating sh_149 rfl rfl rfl (Nat.le_of_ble_eq_true rfl) rfl (Nat.le_of_ble_eq_true rfl) dX9_tie_104 rfl (kk := ?_)
            obtain ⟨r21, e22, h⟩ := bd h
            refine r_cS1 (pc' := 110) C (J6_bitCount_0f7a4_ok  e22) mlX9_135 ceJ6_bitCount_0f7a4 csJ6_bitCount_0f7a4 rfl (Nat.le_of_ble_eq_true rfl) rfl (Nat.le_of_ble_eq_true rfl) dX9_tie_107 rfl (kk := ?_)
            refine r_istore (pc' := 112) (lv2 := [(6, .int r21), (0, .ref 149), (1, .int v1), (2, .int v2), (3, .int v3), (4, .int v4), (5, .int v5)]) C dX9_tie_110 rfl (Nat.le_of_ble_eq_true rfl) rfl ?_
            refine r_iload (pc' := 114) C dX9_tie_112 rfl 0 rfl ?_
            refine r_iload_n (pc' := 115) C dX9_tie_114 rfl 4 rfl ?_
            refine r_icmp_ge (tgt := 123) (pc' := 118) C dX9_tie_115 rfl rfl (fun c23 => ?_) (fun c23 => ?_)
            · rw [if_pos c23] at h
              refine r_iload_n (pc' := 124) C dX9_tie_123 rfl 2 rfl ?_
              refine r_sub [1, 3, 4, 5, 6, 0] rfl ?_
              exact X9_tie_j124_ok  ih h Z C hE
            · rw [if_neg c23] at h
              refine r_iload (pc' := 120) C dX9_tie_118 rfl 5 rfl ?_
              refine r_goto (tgt := 124) C dX9_tie_120 rfl ?_
              refine r_sub [1, 3, 4, 5, 6, 0] rfl ?_
              exact X9_tie_j124_ok  ih h Z C hE
def X9_tie_j151 (N : Nat)  (kr : Int32 → Int32 → Int32 → Int32 → Sg → Option (Int32 × Sg)) (v1 : Int32) (v2 : Int32) (v3 : Int32) (v4 : Int32) (σ : Sg) : Option (Int32 × Sg) :=
  kr v1 v2 v3 (v4 + 1) σ
set_option maxRecDepth 100000 in
set_option maxHeartbeats 4000000 in
theorem X9_tie_j151_ok {E : Ev}  {N : Nat} {kr : Int32 → Int32 → Int32 → Int32 → Sg → Option (Int32 × Sg)}  (hkr : ∀ (v1 : Int32) (v2 : Int32) (v3 : Int32) (v4 : Int32) (σ : Sg) (r : Int32 × Sg), kr v1 v2 v3 v4 σ = some r → Gp E RX9 cX9_tie (some .int) 7 (7) SH0 r.2 (some (.int r.1)) σ 16 [(0, .ref 149), (1, .int v1), (2, .int v2), (3, .int v3), (4, .int v4)] []) {v1 : Int32} {v2 : Int32} {v3 : Int32} {v4 : Int32} {σ : Sg} {r : Int32 × Sg} (h : X9_tie_j151 N  kr v1 v2 v3 v4 σ = some r) : Gp E RX9 cX9_tie (some .int) 7 (7) SH0 r.2 (some (.int r.1)) σ 151 [(0, .ref 149), (1, .int v1), (2, .int v2), (3, .int v3), (4, .int v4)] [] := by
  intro Z C hE
  unfold X9_tie_j151 at h
  refine r_iinc (pc' := 154) (v := v4 + 1) (lv2 := [(4, .int (v4 + 1)), (0, .ref 149), (1, .int v1), (2, .int v2), (3, .int v3)]) C dX9_tie_151 rfl 4 rfl rfl (Nat.le_of_ble_eq_true rfl) rfl ?_
  refine r_goto (tgt := 16) C dX9_tie_154 rfl ?_
  refine r_sub [1, 2, 3, 4, 0] rfl ?_
  exact hkr _ _ _ _ _ _ h Z C hE
def X9_tie_l16 (N : Nat)  (k157 : Int32 → Int32 → Int32 → Sg → Option (Int32 × Sg))  : Nat → Int32 → Int32 → Int32 → Int32 → Sg → Option (Int32 × Sg)
  | 0, _, _, _, _, _ => none
  | n + 1, v1, v2, v3, v4, σ =>
    if (gi σ 149 3) ≤ v4 then (k157 v1 v2 v3 σ) else (X9_tie_l31 N (fun v1 v2 v3 v4 σ => X9_tie_j151 N (fun v1 v2 v3 v4 σ => X9_tie_l16 N k157 n v1 v2 v3 v4 σ) v1 v2 v3 v4 σ) N v1 v2 v3 v4 (v4 + 1) σ)
set_option maxRecDepth 100000 in
set_option maxHeartbeats 4000000 in
theorem X9_tie_l16_ok {E : Ev}  {N : Nat} {k157 : Int32 → Int32 → Int32 → Sg → Option (Int32 × Sg)}  (hk157 : ∀ (v1 : Int32) (v2 : Int32) (v3 : Int32) (σ : Sg) (r : Int32 × Sg), k157 v1 v2 v3 σ = some r → Gp E RX9 cX9_tie (some .int) 7 (7) SH0 r.2 (some (.int r.1)) σ 157 [(0, .ref 149), (1, .int v1), (2, .int v2), (3, .int v3)] []) : ∀ (n : Nat) (v1 : Int32) (v2 : Int32) (v3 : Int32) (v4 : Int32) (σ : Sg) (r : Int32 × Sg), X9_tie_l16 N k157 n v1 v2 v3 v4 σ = some r → Gp E RX9 cX9_tie (some .int) 7 (7) SH0 r.2 (some (.int r.1)) σ 16 [(0, .ref 149), (1, .int v1), (2, .int v2), (3, .int v3), (4, .int v4)] [] := by
  intro n
  induction n with
  | zero => intro v1 v2 v3 v4 σ r h; cases h
  | succ n ih =>
    intro v1 v2 v3 v4 σ r h Z C hE
    unfold X9_tie_l16 at h
    refine r_iload (pc' := 18) C dX9_tie_16 rfl 4 rfl ?_
    refine r_aload_n (pc' := 19) C dX9_tie_18 rfl 0 rfl ?_
    refine r_getI (pc' := 22) C flX9_116 sh_149 rfl dX9_tie_19 rfl ?_
    refine r_icmp_ge (tgt := 157) (pc' := 25) C dX9_tie_22 rfl rfl (fun c3 => ?_) (fun c3 => ?_)
    · rw [if_pos c3] at h
      refine r_sub [0, 1, 2, 3] rfl ?_
      exact hk157 _ _ _ _ _ h Z C hE
    · rw [if_neg c3] at h
      refine r_iload (pc' := 27) C dX9_tie_25 rfl 4 rfl ?_
      refine r_iconst (pc' := 28) C dX9_tie_27 rfl kc_1 ?_
      refine r_iadd (pc' := 29) C dX9_tie_28 rfl ?_
      refine r_istore (pc' := 31) (lv2 := [(5, .int (v4 + 1)), (0, .ref 149), (1, .int v1), (2, .int v2), (3, .int v3), (4, .int v4)]) C dX9_tie_29 rfl (Nat.le_of_ble_eq_true rfl) rfl ?_
      refine r_sub [1, 2, 3, 4, 5, 0] rfl ?_
      exact X9_tie_l31_ok  (fun _ _ _ _ _ _ h Z C hE => by exact X9_tie_j151_ok  ih h Z C hE) N _ _ _ _ _ _ _ h Z C hE
def X9_tie_j157 (N : Nat)   (v1 : Int32) (v2 : Int32) (v3 : Int32) (σ : Sg) : Option (Int32 × Sg) :=
  if 0 ≤ v1 then (bnS (wi σ 149 1 0) fun σ28 => (X9_enters N v1.toInt64 σ28).bind fun r30 => ((X9_enters N v2.toInt64 r30).bind fun r32 => ((X9_floating N 153 r32).bind fun r34 => ((J6_bitCount_0f7a4 N r34.1 r34.2).bind fun r36 => ((X9_enters N r36.toInt64 r34.2).bind fun r38 => (some (v3, r38))))))) else (some ((-2), σ))
set_option maxRecDepth 100000 in
set_option maxHeartbeats 4000000 in
theorem X9_tie_j157_ok {E : Ev}  {N : Nat}    {v1 : Int32} {v2 : Int32} {v3 : Int32} {σ : Sg} {r : Int32 × Sg} (h : X9_tie_j157 N   v1 v2 v3 σ = some r) : Gp E RX9 cX9_tie (some .int) 7 (7) SH0 r.2 (some (.int r.1)) σ 157 [(0, .ref 149), (1, .int v1), (2, .int v2), (3, .int v3)] [] := by
  intro Z C hE
  unfold X9_tie_j157 at h
  refine r_iload_n (pc' := 158) C dX9_tie_157 rfl 1 rfl ?_
  refine r_if_ge (tgt := 164) (pc' := 161) C dX9_tie_158 rfl rfl (fun c27 => ?_) (fun c27 => ?_)
  · rw [if_pos c27] at h
    refine r_aload_n (pc' := 165) C dX9_tie_164 rfl 0 rfl ?_
    refine r_iconst (pc' := 166) C dX9_tie_165 rfl kc_0 ?_
    obtain ⟨σ28, e29, h⟩ := bs h
    refine r_putI (pc' := 169) (σ1 := σ28) C fpX9_15 sh_149 rfl rfl rfl dX9_tie_166 rfl e29 ?_
    refine r_aload_n (pc' := 170) C dX9_tie_169 rfl 0 rfl ?_
    refine r_iload_n (pc' := 171) C dX9_tie_170 rfl 1 rfl ?_
    refine r_i2l (pc' := 172) C dX9_tie_171 rfl rfl ?_
    obtain ⟨r30, e31, h⟩ := bd h
    refine r_cV0 (pc' := 175) C (X9_enters_ok  e31) mlX9_327 ceX9_enters cvX9_enters sh_149 rfl rfl rfl (Nat.le_of_ble_eq_true rfl) rfl (Nat.le_of_ble_eq_true rfl) dX9_tie_172 rfl (kk := ?_)
    refine r_aload_n (pc' := 176) C dX9_tie_175 rfl 0 rfl ?_
    refine r_iload_n (pc' := 177) C dX9_tie_176 rfl 2 rfl ?_
    refine r_i2l (pc' := 178) C dX9_tie_177 rfl rfl ?_
    obtain ⟨r32, e33, h⟩ := bd h
    refine r_cV0 (pc' := 181) C (X9_enters_ok  e33) mlX9_327 ceX9_enters cvX9_enters sh_149 rfl rfl rfl (Nat.le_of_ble_eq_true rfl) rfl (Nat.le_of_ble_eq_true rfl) dX9_tie_178 rfl (kk := ?_)
    refine r_aload_n (pc' := 182) C dX9_tie_181 rfl 0 rfl ?_
    refine r_aload_n (pc' := 183) C dX9_tie_182 rfl 0 rfl ?_
    refine r_aload_n (pc' := 184) C dX9_tie_183 rfl 0 rfl ?_
    refine r_getR (pc' := 187) C flX9_34 sh_149 rfl dX9_tie_184 rfl ?_
    obtain ⟨r34, e35, h⟩ := bd h
    refine r_cV1 (pc' := 190) C (X9_floating_ok mac_153 e35) mlX9_303 ceX9_floating cvX9_floating sh_149 rfl rfl rfl (Nat.le_of_ble_eq_true rfl) rfl (Nat.le_of_ble_eq_true rfl) dX9_tie_187 rfl (kk := ?_)
    obtain ⟨r36, e37, h⟩ := bd h
    refine r_cS1 (pc' := 193) C (J6_bitCount_0f7a4_ok  e37) mlX9_135 ceJ6_bitCount_0f7a4 csJ6_bitCount_0f7a4 rfl (Nat.le_of_ble_eq_true rfl) rfl (Nat.le_of_ble_eq_true rfl) dX9_tie_190 rfl (kk := ?_)
    refine r_i2l (pc' := 194) C dX9_tie_193 rfl rfl ?_
    obtain ⟨r38, e39, h⟩ := bd h
    refine r_cV0 (pc' := 197) C (X9_enters_ok  e39) mlX9_327 ceX9_enters cvX9_enters sh_149 rfl rfl rfl (Nat.le_of_ble_eq_true rfl) rfl (Nat.le_of_ble_eq_true rfl) dX9_tie_194 rfl (kk := ?_)
    refine r_iload_n (pc' := 198) C dX9_tie_197 rfl 3 rfl ?_
    have h := Option.some.inj h
    subst h
    exact r_ret C rfl dX9_tie_198 hE
  · rw [if_neg c27] at h
    refine r_bipush (pc' := 163) C dX9_tie_161 rfl kb_m2 ?_
    have h := Option.some.inj h
    subst h
    exact r_ret C rfl dX9_tie_163 hE
def X9_tie (N : Nat)   (σ : Sg) : Option (Int32 × Sg) :=
  bnS (wi σ 149 0 0) fun σ1 => X9_tie_l16 N (fun v1 v2 v3 σ => X9_tie_j157 N v1 v2 v3 σ) N (-1) (-1) 1000000 0 σ1
set_option maxRecDepth 100000 in
set_option maxHeartbeats 4000000 in
theorem X9_tie_ok {E : Ev}  {N : Nat}  {σ : Sg} {r : Int32 × Sg} (h : X9_tie N   σ = some r) : Cm E (7) yX9_tie cX9_tie 7 (some .int) [.ref 149] SH0 SH0 σ r.2 (some (.int r.1)) 0 0 := by
  refine Cm.intro (by decide +kernel) (Nat.le_of_ble_eq_true rfl) (fun _ h => by obtain ⟨_, _, _, _, _, _, h⟩ := h; exact h) (fun Z C hE => ?_)
  show Wm E Z 0 0 SH0 σ 0 [(0, .ref 149)] []
  unfold X9_tie at h
  refine r_aload_n (pc' := 1) C dX9_tie_0 rfl 0 rfl ?_
  refine r_iconst (pc' := 2) C dX9_tie_1 rfl kc_0 ?_
  obtain ⟨σ1, e2, h⟩ := bs h
  refine r_putI (pc' := 5) (σ1 := σ1) C fpX9_3 sh_149 rfl rfl rfl dX9_tie_2 rfl e2 ?_
  refine r_iconst (pc' := 6) C dX9_tie_5 rfl kc_m1 ?_
  refine r_istore_n (pc' := 7) (lv2 := [(1, .int (-1)), (0, .ref 149)]) C dX9_tie_6 rfl rfl (Nat.le_of_ble_eq_true rfl) rfl ?_
  refine r_iconst (pc' := 8) C dX9_tie_7 rfl kc_m1 ?_
  refine r_istore_n (pc' := 9) (lv2 := [(2, .int (-1)), (1, .int (-1)), (0, .ref 149)]) C dX9_tie_8 rfl rfl (Nat.le_of_ble_eq_true rfl) rfl ?_
  refine r_ldcw (pc' := 12) C cnX9_365 dX9_tie_9 rfl ?_
  refine r_istore_n (pc' := 13) (lv2 := [(3, .int 1000000), (2, .int (-1)), (1, .int (-1)), (0, .ref 149)]) C dX9_tie_12 rfl rfl (Nat.le_of_ble_eq_true rfl) rfl ?_
  refine r_iconst (pc' := 14) C dX9_tie_13 rfl kc_0 ?_
  refine r_istore (pc' := 16) (lv2 := [(4, .int 0), (3, .int 1000000), (2, .int (-1)), (1, .int (-1)), (0, .ref 149)]) C dX9_tie_14 rfl (Nat.le_of_ble_eq_true rfl) rfl ?_
  refine r_sub [4, 3, 2, 1, 0] rfl ?_
  exact X9_tie_l16_ok  (fun _ _ _ _ _ h Z C hE => by exact X9_tie_j157_ok  h Z C hE) N _ _ _ _ _ _ h Z C hE

/-! BorrowedWeightModel.spareOf(I)I -/
def X9_spareOf_l4 (N : Nat)   (σ : Sg) : Nat → Int32 → Int32 → Int32 → Option (Int32)
  | 0, _, _, _ => none
  | n + 1, v1, v2, v3 =>
    if 8 ≤ v3 then (some v2) else ((X9_has N v1 v3 σ).bind fun r2 => (if r2 = 0 then (X9_spareOf_l4 N σ n v1 (v2 + 0) (v3 + 1)) else (if inb v3 8 = true then X9_spareOf_l4 N σ n v1 (v2 + (gi σ 167 v3.toNatClampNeg)) (v3 + 1) else none)))
set_option maxRecDepth 100000 in
set_option maxHeartbeats 4000000 in
theorem X9_spareOf_l4_ok {E : Ev}  {N : Nat}  {σ : Sg}  : ∀ (n : Nat) (v1 : Int32) (v2 : Int32) (v3 : Int32) (r : Int32), X9_spareOf_l4 N σ n v1 v2 v3 = some r → Gp E RX9 cX9_spareOf (some .int) 4 (1) SH0 σ (some (.int r)) σ 4 [(0, .ref 149), (1, .int v1), (2, .int v2), (3, .int v3)] [] := by
  intro n
  induction n with
  | zero => intro v1 v2 v3 r h; cases h
  | succ n ih =>
    intro v1 v2 v3 r h Z C hE
    unfold X9_spareOf_l4 at h
    refine r_iload_n (pc' := 5) C dX9_spareOf_4 rfl 3 rfl ?_
    refine r_bipush (pc' := 7) C dX9_spareOf_5 rfl kb_8 ?_
    refine r_icmp_ge (tgt := 37) (pc' := 10) C dX9_spareOf_7 rfl rfl (fun c1 => ?_) (fun c1 => ?_)
    · rw [if_pos c1] at h
      refine r_iload_n (pc' := 38) C dX9_spareOf_37 rfl 2 rfl ?_
      have h := Option.some.inj h
      subst h
      exact r_ret C rfl dX9_spareOf_38 hE
    · rw [if_neg c1] at h
      refine r_iload_n (pc' := 11) C dX9_spareOf_10 rfl 2 rfl ?_
      refine r_iload_n (pc' := 12) C dX9_spareOf_11 rfl 1 rfl ?_
      refine r_iload_n (pc' := 13) C dX9_spareOf_12 rfl 3 rfl ?_
      obtain ⟨r2, e3, h⟩ := bd h
      refine r_cS1 (pc' := 16) C (X9_has_ok  e3) mlX9_127 ceX9_has csX9_has rfl (Nat.le_of_ble_eq_true rfl) rfl (Nat.le_of_ble_eq_true rfl) dX9_spareOf_13 rfl (kk := ?_)
      refine r_if_eq (tgt := 28) (pc' := 19) C dX9_spareOf_16 rfl rfl (fun c4 => ?_) (fun c4 => ?_)
      · rw [if_pos c4] at h
        refine r_iconst (pc' := 29) C dX9_spareOf_28 rfl kc_0 ?_
        refine r_iadd (pc' := 30) C dX9_spareOf_29 rfl ?_
        refine r_istore_n (pc' := 31) (lv2 := [(2, .int (v2 + 0)), (0, .ref 149), (1, .int v1), (3, .int v3)]) C dX9_spareOf_30 rfl rfl (Nat.le_of_ble_eq_true rfl) rfl ?_
        refine r_iinc (pc' := 34) (v := v3 + 1) (lv2 := [(3, .int (v3 + 1)), (2, .int (v2 + 0)), (0, .ref 149), (1, .int v1)]) C dX9_spareOf_31 rfl 3 rfl rfl (Nat.le_of_ble_eq_true rfl) rfl ?_
        refine r_goto (tgt := 4) C dX9_spareOf_34 rfl ?_
        refine r_sub [2, 3, 1, 0] rfl ?_
        exact ih _ _ _ _ h Z C hE
      · rw [if_neg c4] at h
        refine r_aload_n (pc' := 20) C dX9_spareOf_19 rfl 0 rfl ?_
        refine r_getR (pc' := 23) C flX9_76 sh_149 rfl dX9_spareOf_20 rfl ?_
        refine r_iload_n (pc' := 24) C dX9_spareOf_23 rfl 3 rfl ?_
        obtain ⟨q5, h⟩ := ck h
        refine r_iald (pc' := 25) C sh_167 (vin q5) dX9_spareOf_24 rfl ?_
        refine r_goto (tgt := 29) C dX9_spareOf_25 rfl ?_
        refine r_iadd (pc' := 30) C dX9_spareOf_29 rfl ?_
        refine r_istore_n (pc' := 31) (lv2 := [(2, .int (v2 + (gi σ 167 v3.toNatClampNeg))), (0, .ref 149), (1, .int v1), (3, .int v3)]) C dX9_spareOf_30 rfl rfl (Nat.le_of_ble_eq_true rfl) rfl ?_
        refine r_iinc (pc' := 34) (v := v3 + 1) (lv2 := [(3, .int (v3 + 1)), (2, .int (v2 + (gi σ 167 v3.toNatClampNeg))), (0, .ref 149), (1, .int v1)]) C dX9_spareOf_31 rfl 3 rfl rfl (Nat.le_of_ble_eq_true rfl) rfl ?_
        refine r_goto (tgt := 4) C dX9_spareOf_34 rfl ?_
        refine r_sub [2, 3, 1, 0] rfl ?_
        exact ih _ _ _ _ h Z C hE
def X9_spareOf (N : Nat)  (v1 : Int32) (σ : Sg) : Option (Int32) :=
  X9_spareOf_l4 N σ N v1 0 0
set_option maxRecDepth 100000 in
set_option maxHeartbeats 4000000 in
theorem X9_spareOf_ok {E : Ev}  {N : Nat} {v1 : Int32} {σ : Sg} {r : Int32} (h : X9_spareOf N  v1 σ = some r) : Cm E (1) yX9_spareOf cX9_spareOf 4 (some .int) [.ref 149, .int v1] SH0 SH0 σ σ (some (.int r)) 0 0 := by
  refine Cm.intro (by decide +kernel) (Nat.le_of_ble_eq_true rfl) (fun _ h => by obtain ⟨_, _, _, _, _, _, h⟩ := h; exact h) (fun Z C hE => ?_)
  show Wm E Z 0 0 SH0 σ 0 [(0, .ref 149), (1, .int v1)] []
  unfold X9_spareOf at h
  refine r_iconst (pc' := 1) C dX9_spareOf_0 rfl kc_0 ?_
  refine r_istore_n (pc' := 2) (lv2 := [(2, .int 0), (0, .ref 149), (1, .int v1)]) C dX9_spareOf_1 rfl rfl (Nat.le_of_ble_eq_true rfl) rfl ?_
  refine r_iconst (pc' := 3) C dX9_spareOf_2 rfl kc_0 ?_
  refine r_istore_n (pc' := 4) (lv2 := [(3, .int 0), (2, .int 0), (0, .ref 149), (1, .int v1)]) C dX9_spareOf_3 rfl rfl (Nat.le_of_ble_eq_true rfl) rfl ?_
  refine r_sub [2, 3, 1, 0] rfl ?_
  exact X9_spareOf_l4_ok  N _ _ _ _ h Z C hE

/-! BorrowedWeightModel.binds()I -/
def X9_binds_l38 (N : Nat)  (k85 : Int32 → Sg → Option (Int32 × Sg))  : Nat → Int32 → Int32 → Sg → Option (Int32 × Sg)
  | 0, _, _, _ => none
  | n + 1, v1, v2, σ =>
    if 8 ≤ v2 then (k85 v1 σ) else ((X9_has N v1 v2 σ).bind fun r11 => (if r11 = 0 then (if inb v2 8 = true then bnS (wi σ 167 v2.toNatClampNeg 0) fun σ15 => X9_binds_l38 N k85 n v1 (v2 + 1) σ15 else none) else ((X9_bundle N 153 v2 σ).bind fun r17 => ((X9_above N 153 r17 σ).bind fun r19 => (if inb v2 8 = true then bnS (wi r19.2 167 v2.toNatClampNeg r19.1) fun σ22 => X9_binds_l38 N k85 n v1 (v2 + 1) σ22 else none)))))
set_option maxRecDepth 100000 in
set_option maxHeartbeats 4000000 in
theorem X9_binds_l38_ok {E : Ev}  {N : Nat} {k85 : Int32 → Sg → Option (Int32 × Sg)}  (hk85 : ∀ (v1 : Int32) (σ : Sg) (r : Int32 × Sg), k85 v1 σ = some r → Gp E RX9 cX9_binds (some .int) 5 (6) SH0 r.2 (some (.int r.1)) σ 85 [(0, .ref 149), (1, .int v1)] []) : ∀ (n : Nat) (v1 : Int32) (v2 : Int32) (σ : Sg) (r : Int32 × Sg), X9_binds_l38 N k85 n v1 v2 σ = some r → Gp E RX9 cX9_binds (some .int) 5 (6) SH0 r.2 (some (.int r.1)) σ 38 [(0, .ref 149), (1, .int v1), (2, .int v2)] [] := by
  intro n
  induction n with
  | zero => intro v1 v2 σ r h; cases h
  | succ n ih =>
    intro v1 v2 σ r h Z C hE
    unfold X9_binds_l38 at h
    refine r_iload_n (pc' := 39) C dX9_binds_38 rfl 2 rfl ?_
    refine r_bipush (pc' := 41) C dX9_binds_39 rfl kb_8 ?_
    refine r_icmp_ge (tgt := 85) (pc' := 44) C dX9_binds_41 rfl rfl (fun c10 => ?_) (fun c10 => ?_)
    · rw [if_pos c10] at h
      refine r_sub [0, 1] rfl ?_
      exact hk85 _ _ _ h Z C hE
    · rw [if_neg c10] at h
      refine r_aload_n (pc' := 45) C dX9_binds_44 rfl 0 rfl ?_
      refine r_getR (pc' := 48) C flX9_76 sh_149 rfl dX9_binds_45 rfl ?_
      refine r_iload_n (pc' := 49) C dX9_binds_48 rfl 2 rfl ?_
      refine r_iload_n (pc' := 50) C dX9_binds_49 rfl 1 rfl ?_
      refine r_iload_n (pc' := 51) C dX9_binds_50 rfl 2 rfl ?_
      obtain ⟨r11, e12, h⟩ := bd h
      refine r_cS1 (pc' := 54) C (X9_has_ok  e12) mlX9_127 ceX9_has csX9_has rfl (Nat.le_of_ble_eq_true rfl) rfl (Nat.le_of_ble_eq_true rfl) dX9_binds_51 rfl (kk := ?_)
      refine r_if_eq (tgt := 77) (pc' := 57) C dX9_binds_54 rfl rfl (fun c13 => ?_) (fun c13 => ?_)
      · rw [if_pos c13] at h
        refine r_iconst (pc' := 78) C dX9_binds_77 rfl kc_0 ?_
        obtain ⟨q14, h⟩ := ck h
        obtain ⟨σ15, e16, h⟩ := bs h
        refine r_iast (pc' := 79) (σ1 := σ15) C sh_167 (vin q14) dX9_binds_78 rfl e16 ?_
        refine r_iinc (pc' := 82) (v := v2 + 1) (lv2 := [(2, .int (v2 + 1)), (0, .ref 149), (1, .int v1)]) C dX9_binds_79 rfl 2 rfl rfl (Nat.le_of_ble_eq_true rfl) rfl ?_
        refine r_goto (tgt := 38) C dX9_binds_82 rfl ?_
        refine r_sub [1, 2, 0] rfl ?_
        exact ih _ _ _ _ h Z C hE
      · rw [if_neg c13] at h
        refine r_aload_n (pc' := 58) C dX9_binds_57 rfl 0 rfl ?_
        refine r_aload_n (pc' := 59) C dX9_binds_58 rfl 0 rfl ?_
        refine r_getR (pc' := 62) C flX9_34 sh_149 rfl dX9_binds_59 rfl ?_
        refine r_aload_n (pc' := 63) C dX9_binds_62 rfl 0 rfl ?_
        refine r_aload_n (pc' := 64) C dX9_binds_63 rfl 0 rfl ?_
        refine r_getR (pc' := 67) C flX9_34 sh_149 rfl dX9_binds_64 rfl ?_
        refine r_iload_n (pc' := 68) C dX9_binds_67 rfl 2 rfl ?_
        obtain ⟨r17, e18, h⟩ := bd h
        refine r_cV1 (pc' := 71) C (X9_bundle_ok mac_153 e18) mlX9_281 ceX9_bundle cvX9_bundle sh_149 rfl rfl rfl (Nat.le_of_ble_eq_true rfl) rfl (Nat.le_of_ble_eq_true rfl) dX9_binds_68 rfl (kk := ?_)
        obtain ⟨r19, e20, h⟩ := bd h
        refine r_cV1 (pc' := 74) C (X9_above_ok mac_153 e20) mlX9_287 ceX9_above cvX9_above sh_149 rfl rfl rfl (Nat.le_of_ble_eq_true rfl) rfl (Nat.le_of_ble_eq_true rfl) dX9_binds_71 rfl (kk := ?_)
        refine r_goto (tgt := 78) C dX9_binds_74 rfl ?_
        obtain ⟨q21, h⟩ := ck h
        obtain ⟨σ22, e23, h⟩ := bs h
        refine r_iast (pc' := 79) (σ1 := σ22) C sh_167 (vin q21) dX9_binds_78 rfl e23 ?_
        refine r_iinc (pc' := 82) (v := v2 + 1) (lv2 := [(2, .int (v2 + 1)), (0, .ref 149), (1, .int v1)]) C dX9_binds_79 rfl 2 rfl rfl (Nat.le_of_ble_eq_true rfl) rfl ?_
        refine r_goto (tgt := 38) C dX9_binds_82 rfl ?_
        refine r_sub [1, 2, 0] rfl ?_
        exact ih _ _ _ _ h Z C hE
def X9_binds_l125 (N : Nat)  (k187 : Int32 → Int32 → Sg → Option (Int32 × Sg))  : Nat → Int32 → Int32 → Int32 → Int32 → Sg → Option (Int32 × Sg)
  | 0, _, _, _, _, _ => none
  | n + 1, v1, v2, v3, v4, σ =>
    if v2 < v4 then (k187 v1 v2 σ) else (if v3 = 0 then (k187 v1 v2 σ) else (if (v4 &&& (v2 ^^^ (-1))) = 0 then ((X9_spareOf N v4 σ).bind fun r35 => (if r35 < 0 then (X9_binds_l125 N k187 n v1 v2 v3 (v4 + 1) σ) else (if inb v2 256 = true then if inb (v2 &&& (v4 ^^^ (-1))) 256 = true then (J9_max_7cf53 N (gi σ 166 v2.toNatClampNeg) ((gi σ 166 (v2 &&& (v4 ^^^ (-1))).toNatClampNeg) + 1) σ).bind fun r40 => (if inb v2 256 = true then bnS (wi σ 166 v2.toNatClampNeg r40) fun σ43 => X9_binds_l125 N k187 n v1 v2 v3 (v4 + 1) σ43 else none) else none else none))) else (X9_binds_l125 N k187 n v1 v2 v3 (v4 + 1) σ)))
set_option maxRecDepth 100000 in
set_option maxHeartbeats 4000000 in
theorem X9_binds_l125_ok {E : Ev}  {N : Nat} {k187 : Int32 → Int32 → Sg → Option (Int32 × Sg)}  (hk187 : ∀ (v1 : Int32) (v2 : Int32) (σ : Sg) (r : Int32 × Sg), k187 v1 v2 σ = some r → Gp E RX9 cX9_binds (some .int) 5 (6) SH0 r.2 (some (.int r.1)) σ 187 [(0, .ref 149), (1, .int v1), (2, .int v2)] []) : ∀ (n : Nat) (v1 : Int32) (v2 : Int32) (v3 : Int32) (v4 : Int32) (σ : Sg) (r : Int32 × Sg), X9_binds_l125 N k187 n v1 v2 v3 v4 σ = some r → Gp E RX9 cX9_binds (some .int) 5 (6) SH0 r.2 (some (.int r.1)) σ 125 [(0, .ref 149), (1, .int v1), (2, .int v2), (3, .int v3), (4, .int v4)] [] := by
  intro n
  induction n with
  | zero => intro v1 v2 v3 v4 σ r h; cases h
  | succ n ih =>
    intro v1 v2 v3 v4 σ r h Z C hE
    unfold X9_binds_l125 at h
    refine r_iload (pc' := 127) C dX9_binds_125 rfl 4 rfl ?_
    refine r_iload_n (pc' := 128) C dX9_binds_127 rfl 2 rfl ?_
    refine r_icmp_gt (tgt := 187) (pc' := 131) C dX9_binds_128 rfl rfl (fun c32 => ?_) (fun c32 => ?_)
    · rw [if_pos c32] at h
      refine r_sub [0, 1, 2] rfl ?_
      exact hk187 _ _ _ _ h Z C hE
    · rw [if_neg c32] at h
      refine r_iload_n (pc' := 132) C dX9_binds_131 rfl 3 rfl ?_
      refine r_if_eq (tgt := 187) (pc' := 135) C dX9_binds_132 rfl rfl (fun c33 => ?_) (fun c33 => ?_)
      · rw [if_pos c33] at h
        refine r_sub [0, 1, 2] rfl ?_
        exact hk187 _ _ _ _ h Z C hE
      · rw [if_neg c33] at h
        refine r_iload (pc' := 137) C dX9_binds_135 rfl 4 rfl ?_
        refine r_iload_n (pc' := 138) C dX9_binds_137 rfl 2 rfl ?_
        refine r_iconst (pc' := 139) C dX9_binds_138 rfl kc_m1 ?_
        refine r_ixor (pc' := 140) C dX9_binds_139 rfl ?_
        refine r_iand (pc' := 141) C dX9_binds_140 rfl ?_
        refine r_if_ne (tgt := 181) (pc' := 144) C dX9_binds_141 rfl rfl (fun c34 => ?_) (fun c34 => ?_)
        · rw [if_neg c34] at h
          refine r_iinc (pc' := 184) (v := v4 + 1) (lv2 := [(4, .int (v4 + 1)), (0, .ref 149), (1, .int v1), (2, .int v2), (3, .int v3)]) C dX9_binds_181 rfl 4 rfl rfl (Nat.le_of_ble_eq_true rfl) rfl ?_
          refine r_goto (tgt := 125) C dX9_binds_184 rfl ?_
          refine r_sub [1, 2, 3, 4, 0] rfl ?_
          exact ih _ _ _ _ _ _ h Z C hE
        · rw [if_pos c34] at h
          refine r_aload_n (pc' := 145) C dX9_binds_144 rfl 0 rfl ?_
          refine r_iload (pc' := 147) C dX9_binds_145 rfl 4 rfl ?_
          obtain ⟨r35, e36, h⟩ := bd h
          refine r_cV1 (pc' := 150) C (X9_spareOf_ok  e36) mlX9_367 ceX9_spareOf cvX9_spareOf sh_149 rfl rfl rfl (Nat.le_of_ble_eq_true rfl) rfl (Nat.le_of_ble_eq_true rfl) dX9_binds_147 rfl (kk := ?_)
          refine r_if_lt (tgt := 181) (pc' := 153) C dX9_binds_150 rfl rfl (fun c37 => ?_) (fun c37 => ?_)
          · rw [if_pos c37] at h
            refine r_iinc (pc' := 184) (v := v4 + 1) (lv2 := [(4, .int (v4 + 1)), (0, .ref 149), (1, .int v1), (2, .int v2), (3, .int v3)]) C dX9_binds_181 rfl 4 rfl rfl (Nat.le_of_ble_eq_true rfl) rfl ?_
            refine r_goto (tgt := 125) C dX9_binds_184 rfl ?_
            refine r_sub [1, 2, 3, 4, 0] rfl ?_
            exact ih _ _ _ _ _ _ h Z C hE
          · rw [if_neg c37] at h
            refine r_aload_n (pc' := 154) C dX9_binds_153 rfl 0 rfl ?_
            refine r_getR (pc' := 157) C flX9_73 sh_149 rfl dX9_binds_154 rfl ?_
            refine r_iload_n (pc' := 158) C dX9_binds_157 rfl 2 rfl ?_
            refine r_aload_n (pc' := 159) C dX9_binds_158 rfl 0 rfl ?_
            refine r_getR (pc' := 162) C flX9_73 sh_149 rfl dX9_binds_159 rfl ?_
            refine r_iload_n (pc' := 163) C dX9_binds_162 rfl 2 rfl ?_
            obtain ⟨q38, h⟩ := ck h
            refine r_iald (pc' := 164) C sh_166 (vin q38) dX9_binds_163 rfl ?_
            refine r_aload_n (pc' := 165) C dX9_binds_164 rfl 0 rfl ?_
            refine r_getR (pc' := 168) C flX9_73 sh_149 rfl dX9_binds_165 rfl ?_
            refine r_iload_n (pc' := 169) C dX9_binds_168 rfl 2 rfl ?_
            refine r_iload (pc' := 171) C dX9_binds_169 rfl 4 rfl ?_
            refine r_iconst (pc' := 172) C dX9_binds_171 rfl kc_m1 ?_
            refine r_ixor (pc' := 173) C dX9_binds_172 rfl ?_
            refine r_iand (pc' := 174) C dX9_binds_173 rfl ?_
            obtain ⟨q39, h⟩ := ck h
            refine r_iald (pc' := 175) C sh_166 (vin q39) dX9_binds_174 rfl ?_
            refine r_iconst (pc' := 176) C dX9_binds_175 rfl kc_1 ?_
            refine r_iadd (pc' := 177) C dX9_binds_176 rfl ?_
            obtain ⟨r40, e41, h⟩ := bd h
            refine r_cS1 (pc' := 180) C (J9_max_7cf53_ok  e41) mlX9_267 ceJ9_max_7cf53 csJ9_max_7cf53 rfl (Nat.le_of_ble_eq_true rfl) rfl (Nat.le_of_ble_eq_true rfl) dX9_binds_177 rfl (kk := ?_)
            obtain ⟨q42, h⟩ := ck h
            obtain ⟨σ43, e44, h⟩ := bs h
            refine r_iast (pc' := 181) (σ1 := σ43) C sh_166 (vin q42) dX9_binds_180 rfl e44 ?_
            refine r_iinc (pc' := 184) (v := v4 + 1) (lv2 := [(4, .int (v4 + 1)), (0, .ref 149), (1, .int v1), (2, .int v2), (3, .int v3)]) C dX9_binds_181 rfl 4 rfl rfl (Nat.le_of_ble_eq_true rfl) rfl ?_
            refine r_goto (tgt := 125) C dX9_binds_184 rfl ?_
            refine r_sub [1, 2, 3, 4, 0] rfl ?_
            exact ih _ _ _ _ _ _ h Z C hE
def X9_binds_j187 (N : Nat)  (kr : Int32 → Int32 → Sg → Option (Int32 × Sg)) (v1 : Int32) (v2 : Int32) (σ : Sg) : Option (Int32 × Sg) :=
  kr v1 (v2 + 1) σ
set_option maxRecDepth 100000 in
set_option maxHeartbeats 4000000 in
theorem X9_binds_j187_ok {E : Ev}  {N : Nat} {kr : Int32 → Int32 → Sg → Option (Int32 × Sg)}  (hkr : ∀ (v1 : Int32) (v2 : Int32) (σ : Sg) (r : Int32 × Sg), kr v1 v2 σ = some r → Gp E RX9 cX9_binds (some .int) 5 (6) SH0 r.2 (some (.int r.1)) σ 94 [(0, .ref 149), (1, .int v1), (2, .int v2)] []) {v1 : Int32} {v2 : Int32} {σ : Sg} {r : Int32 × Sg} (h : X9_binds_j187 N  kr v1 v2 σ = some r) : Gp E RX9 cX9_binds (some .int) 5 (6) SH0 r.2 (some (.int r.1)) σ 187 [(0, .ref 149), (1, .int v1), (2, .int v2)] [] := by
  intro Z C hE
  unfold X9_binds_j187 at h
  refine r_iinc (pc' := 190) (v := v2 + 1) (lv2 := [(2, .int (v2 + 1)), (0, .ref 149), (1, .int v1)]) C dX9_binds_187 rfl 2 rfl rfl (Nat.le_of_ble_eq_true rfl) rfl ?_
  refine r_goto (tgt := 94) C dX9_binds_190 rfl ?_
  refine r_sub [1, 2, 0] rfl ?_
  exact hkr _ _ _ _ h Z C hE
def X9_binds_l94 (N : Nat)  (k193 : Int32 → Sg → Option (Int32 × Sg))  : Nat → Int32 → Int32 → Sg → Option (Int32 × Sg)
  | 0, _, _, _ => none
  | n + 1, v1, v2, σ =>
    if v1 < v2 then (k193 v1 σ) else (if inb v2 256 = true then bnS (wi σ 166 v2.toNatClampNeg (-1000000)) fun σ29 => if (v2 &&& (v1 ^^^ (-1))) = 0 then (X9_binds_l125 N (fun v1 v2 σ => X9_binds_j187 N (fun v1 v2 σ => X9_binds_l94 N k193 n v1 v2 σ) v1 v2 σ) N v1 v2 1 1 σ29) else (X9_binds_l125 N (fun v1 v2 σ => X9_binds_j187 N (fun v1 v2 σ => X9_binds_l94 N k193 n v1 v2 σ) v1 v2 σ) N v1 v2 0 1 σ29) else none)
set_option maxRecDepth 100000 in
set_option maxHeartbeats 4000000 in
theorem X9_binds_l94_ok {E : Ev}  {N : Nat} {k193 : Int32 → Sg → Option (Int32 × Sg)}  (hk193 : ∀ (v1 : Int32) (σ : Sg) (r : Int32 × Sg), k193 v1 σ = some r → Gp E RX9 cX9_binds (some .int) 5 (6) SH0 r.2 (some (.int r.1)) σ 193 [(0, .ref 149), (1, .int v1)] []) : ∀ (n : Nat) (v1 : Int32) (v2 : Int32) (σ : Sg) (r : Int32 × Sg), X9_binds_l94 N k193 n v1 v2 σ = some r → Gp E RX9 cX9_binds (some .int) 5 (6) SH0 r.2 (some (.int r.1)) σ 94 [(0, .ref 149), (1, .int v1), (2, .int v2)] [] := by
  intro n
  induction n with
  | zero => intro v1 v2 σ r h; cases h
  | succ n ih =>
    intro v1 v2 σ r h Z C hE
    unfold X9_binds_l94 at h
    refine r_iload_n (pc' := 95) C dX9_binds_94 rfl 2 rfl ?_
    refine r_iload_n (pc' := 96) C dX9_binds_95 rfl 1 rfl ?_
    refine r_icmp_gt (tgt := 193) (pc' := 99) C dX9_binds_96 rfl rfl (fun c27 => ?_) (fun c27 => ?_)
    · rw [if_pos c27] at h
      refine r_sub [0, 1] rfl ?_
      exact hk193 _ _ _ h Z C hE
    · rw [if_neg c27] at h
      refine r_aload_n (pc' := 100) C dX9_binds_99 rfl 0 rfl ?_
      refine r_getR (pc' := 103) C flX9_73 sh_149 rfl dX9_binds_100 rfl ?_
      refine r_iload_n (pc' := 104) C dX9_binds_103 rfl 2 rfl ?_
      refine r_ldcw (pc' := 107) C cnX9_366 dX9_binds_104 rfl ?_
      obtain ⟨q28, h⟩ := ck h
      obtain ⟨σ29, e30, h⟩ := bs h
      refine r_iast (pc' := 108) (σ1 := σ29) C sh_166 (vin q28) dX9_binds_107 rfl e30 ?_
      refine r_iload_n (pc' := 109) C dX9_binds_108 rfl 2 rfl ?_
      refine r_iload_n (pc' := 110) C dX9_binds_109 rfl 1 rfl ?_
      refine r_iconst (pc' := 111) C dX9_binds_110 rfl kc_m1 ?_
      refine r_ixor (pc' := 112) C dX9_binds_111 rfl ?_
      refine r_iand (pc' := 113) C dX9_binds_112 rfl ?_
      refine r_if_ne (tgt := 120) (pc' := 116) C dX9_binds_113 rfl rfl (fun c31 => ?_) (fun c31 => ?_)
      · rw [if_neg c31] at h
        refine r_iconst (pc' := 121) C dX9_binds_120 rfl kc_0 ?_
        refine r_istore_n (pc' := 122) (lv2 := [(3, .int 0), (0, .ref 149), (1, .int v1), (2, .int v2)]) C dX9_binds_121 rfl rfl (Nat.le_of_ble_eq_true rfl) rfl ?_
        refine r_iconst (pc' := 123) C dX9_binds_122 rfl kc_1 ?_
        refine r_istore (pc' := 125) (lv2 := [(4, .int 1), (3, .int 0), (0, .ref 149), (1, .int v1), (2, .int v2)]) C dX9_binds_123 rfl (Nat.le_of_ble_eq_true rfl) rfl ?_
        refine r_sub [2, 3, 4, 1, 0] rfl ?_
        exact X9_binds_l125_ok  (fun _ _ _ _ h Z C hE => by exact X9_binds_j187_ok  ih h Z C hE) N _ _ _ _ _ _ h Z C hE
      · rw [if_pos c31] at h
        refine r_iconst (pc' := 117) C dX9_binds_116 rfl kc_1 ?_
        refine r_goto (tgt := 121) C dX9_binds_117 rfl ?_
        refine r_istore_n (pc' := 122) (lv2 := [(3, .int 1), (0, .ref 149), (1, .int v1), (2, .int v2)]) C dX9_binds_121 rfl rfl (Nat.le_of_ble_eq_true rfl) rfl ?_
        refine r_iconst (pc' := 123) C dX9_binds_122 rfl kc_1 ?_
        refine r_istore (pc' := 125) (lv2 := [(4, .int 1), (3, .int 1), (0, .ref 149), (1, .int v1), (2, .int v2)]) C dX9_binds_123 rfl (Nat.le_of_ble_eq_true rfl) rfl ?_
        refine r_sub [2, 3, 4, 1, 0] rfl ?_
        exact X9_binds_l125_ok  (fun _ _ _ _ h Z C hE => by exact X9_binds_j187_ok  ih h Z C hE) N _ _ _ _ _ _ h Z C hE
def X9_binds_j193 (N : Nat)   (v1 : Int32) (σ : Sg) : Option (Int32 × Sg) :=
  bnS (wi σ 149 1 0) fun σ45 => if inb v1 256 = true then (X9_enters N ((gi σ45 166 v1.toNatClampNeg).toInt64) σ45).bind fun r48 => ((J6_bitCount_0f7a4 N v1 r48).bind fun r50 => (if inb v1 256 = true then some (r50 - (gi r48 166 v1.toNatClampNeg), r48) else none)) else none
set_option maxRecDepth 100000 in
set_option maxHeartbeats 4000000 in
theorem X9_binds_j193_ok {E : Ev}  {N : Nat}    {v1 : Int32} {σ : Sg} {r : Int32 × Sg} (h : X9_binds_j193 N   v1 σ = some r) : Gp E RX9 cX9_binds (some .int) 5 (6) SH0 r.2 (some (.int r.1)) σ 193 [(0, .ref 149), (1, .int v1)] [] := by
  intro Z C hE
  unfold X9_binds_j193 at h
  refine r_aload_n (pc' := 194) C dX9_binds_193 rfl 0 rfl ?_
  refine r_iconst (pc' := 195) C dX9_binds_194 rfl kc_0 ?_
  obtain ⟨σ45, e46, h⟩ := bs h
  refine r_putI (pc' := 198) (σ1 := σ45) C fpX9_15 sh_149 rfl rfl rfl dX9_binds_195 rfl e46 ?_
  refine r_aload_n (pc' := 199) C dX9_binds_198 rfl 0 rfl ?_
  refine r_aload_n (pc' := 200) C dX9_binds_199 rfl 0 rfl ?_
  refine r_getR (pc' := 203) C flX9_73 sh_149 rfl dX9_binds_200 rfl ?_
  refine r_iload_n (pc' := 204) C dX9_binds_203 rfl 1 rfl ?_
  obtain ⟨q47, h⟩ := ck h
  refine r_iald (pc' := 205) C sh_166 (vin q47) dX9_binds_204 rfl ?_
  refine r_i2l (pc' := 206) C dX9_binds_205 rfl rfl ?_
  obtain ⟨r48, e49, h⟩ := bd h
  refine r_cV0 (pc' := 209) C (X9_enters_ok  e49) mlX9_327 ceX9_enters cvX9_enters sh_149 rfl rfl rfl (Nat.le_of_ble_eq_true rfl) rfl (Nat.le_of_ble_eq_true rfl) dX9_binds_206 rfl (kk := ?_)
  refine r_iload_n (pc' := 210) C dX9_binds_209 rfl 1 rfl ?_
  obtain ⟨r50, e51, h⟩ := bd h
  refine r_cS1 (pc' := 213) C (J6_bitCount_0f7a4_ok  e51) mlX9_135 ceJ6_bitCount_0f7a4 csJ6_bitCount_0f7a4 rfl (Nat.le_of_ble_eq_true rfl) rfl (Nat.le_of_ble_eq_true rfl) dX9_binds_210 rfl (kk := ?_)
  refine r_aload_n (pc' := 214) C dX9_binds_213 rfl 0 rfl ?_
  refine r_getR (pc' := 217) C flX9_73 sh_149 rfl dX9_binds_214 rfl ?_
  refine r_iload_n (pc' := 218) C dX9_binds_217 rfl 1 rfl ?_
  obtain ⟨q52, h⟩ := ck h
  refine r_iald (pc' := 219) C sh_166 (vin q52) dX9_binds_218 rfl ?_
  refine r_isub (pc' := 220) C dX9_binds_219 rfl ?_
  have h := Option.some.inj h
  subst h
  exact r_ret C rfl dX9_binds_220 hE
def X9_binds_j85 (N : Nat)   (v1 : Int32) (σ : Sg) : Option (Int32 × Sg) :=
  if inb 0 256 = true then bnS (wi σ 166 (0 : Int32).toNatClampNeg 0) fun σ25 => X9_binds_l94 N (fun v1 σ => X9_binds_j193 N v1 σ) N v1 1 σ25 else none
set_option maxRecDepth 100000 in
set_option maxHeartbeats 4000000 in
theorem X9_binds_j85_ok {E : Ev}  {N : Nat}    {v1 : Int32} {σ : Sg} {r : Int32 × Sg} (h : X9_binds_j85 N   v1 σ = some r) : Gp E RX9 cX9_binds (some .int) 5 (6) SH0 r.2 (some (.int r.1)) σ 85 [(0, .ref 149), (1, .int v1)] [] := by
  intro Z C hE
  unfold X9_binds_j85 at h
  refine r_aload_n (pc' := 86) C dX9_binds_85 rfl 0 rfl ?_
  refine r_getR (pc' := 89) C flX9_73 sh_149 rfl dX9_binds_86 rfl ?_
  refine r_iconst (pc' := 90) C dX9_binds_89 rfl kc_0 ?_
  refine r_iconst (pc' := 91) C dX9_binds_90 rfl kc_0 ?_
  obtain ⟨q24, h⟩ := ck h
  obtain ⟨σ25, e26, h⟩ := bs h
  refine r_iast (pc' := 92) (σ1 := σ25) C sh_166 (vin q24) dX9_binds_91 rfl e26 ?_
  refine r_iconst (pc' := 93) C dX9_binds_92 rfl kc_1 ?_
  refine r_istore_n (pc' := 94) (lv2 := [(2, .int 1), (0, .ref 149), (1, .int v1)]) C dX9_binds_93 rfl rfl (Nat.le_of_ble_eq_true rfl) rfl ?_
  refine r_sub [1, 2, 0] rfl ?_
  exact X9_binds_l94_ok  (fun _ _ _ h Z C hE => by exact X9_binds_j193_ok  h Z C hE) N _ _ _ _ h Z C hE
def X9_binds (N : Nat)   (σ : Sg) : Option (Int32 × Sg) :=
  bnS (wi σ 149 0 0) fun σ1 => (X9_firstOnes N 153 σ1).bind fun r3 => ((X9_here N 153 σ1).bind fun r5 => ((X9_above N 153 r5 σ1).bind fun r7 => (if 0 ≤ r7.1 then (X9_binds_l38 N (fun v1 σ => X9_binds_j85 N v1 σ) N r3 0 r7.2) else (some ((-2), r7.2)))))
set_option maxRecDepth 100000 in
set_option maxHeartbeats 4000000 in
theorem X9_binds_ok {E : Ev}  {N : Nat}  {σ : Sg} {r : Int32 × Sg} (h : X9_binds N   σ = some r) : Cm E (6) yX9_binds cX9_binds 5 (some .int) [.ref 149] SH0 SH0 σ r.2 (some (.int r.1)) 0 0 := by
  refine Cm.intro (by decide +kernel) (Nat.le_of_ble_eq_true rfl) (fun _ h => by obtain ⟨_, _, _, _, _, _, h⟩ := h; exact h) (fun Z C hE => ?_)
  show Wm E Z 0 0 SH0 σ 0 [(0, .ref 149)] []
  unfold X9_binds at h
  refine r_aload_n (pc' := 1) C dX9_binds_0 rfl 0 rfl ?_
  refine r_iconst (pc' := 2) C dX9_binds_1 rfl kc_0 ?_
  obtain ⟨σ1, e2, h⟩ := bs h
  refine r_putI (pc' := 5) (σ1 := σ1) C fpX9_3 sh_149 rfl rfl rfl dX9_binds_2 rfl e2 ?_
  refine r_aload_n (pc' := 6) C dX9_binds_5 rfl 0 rfl ?_
  refine r_aload_n (pc' := 7) C dX9_binds_6 rfl 0 rfl ?_
  refine r_getR (pc' := 10) C flX9_34 sh_149 rfl dX9_binds_7 rfl ?_
  obtain ⟨r3, e4, h⟩ := bd h
  refine r_cV1 (pc' := 13) C (X9_firstOnes_ok mac_153 e4) mlX9_359 ceX9_firstOnes cvX9_firstOnes sh_149 rfl rfl rfl (Nat.le_of_ble_eq_true rfl) rfl (Nat.le_of_ble_eq_true rfl) dX9_binds_10 rfl (kk := ?_)
  refine r_istore_n (pc' := 14) (lv2 := [(1, .int r3), (0, .ref 149)]) C dX9_binds_13 rfl rfl (Nat.le_of_ble_eq_true rfl) rfl ?_
  refine r_aload_n (pc' := 15) C dX9_binds_14 rfl 1 rfl ?_
  refine r_aload_n (pc' := 16) C dX9_binds_15 rfl 1 rfl ?_
  refine r_getR (pc' := 19) C flX9_34 sh_149 rfl dX9_binds_16 rfl ?_
  refine r_aload_n (pc' := 20) C dX9_binds_19 rfl 1 rfl ?_
  refine r_aload_n (pc' := 21) C dX9_binds_20 rfl 1 rfl ?_
  refine r_getR (pc' := 24) C flX9_34 sh_149 rfl dX9_binds_21 rfl ?_
  obtain ⟨r5, e6, h⟩ := bd h
  refine r_cV1 (pc' := 27) C (X9_here_ok mac_153 e6) mlX9_307 ceX9_here cvX9_here sh_149 rfl rfl rfl (Nat.le_of_ble_eq_true rfl) rfl (Nat.le_of_ble_eq_true rfl) dX9_binds_24 rfl (kk := ?_)
  obtain ⟨r7, e8, h⟩ := bd h
  refine r_cV1 (pc' := 30) C (X9_above_ok mac_153 e8) mlX9_287 ceX9_above cvX9_above sh_149 rfl rfl rfl (Nat.le_of_ble_eq_true rfl) rfl (Nat.le_of_ble_eq_true rfl) dX9_binds_27 rfl (kk := ?_)
  refine r_if_ge (tgt := 36) (pc' := 33) C dX9_binds_30 rfl rfl (fun c9 => ?_) (fun c9 => ?_)
  · rw [if_pos c9] at h
    refine r_iconst (pc' := 37) C dX9_binds_36 rfl kc_0 ?_
    refine r_istore_n (pc' := 38) (lv2 := [(2, .int 0), (1, .int r3), (0, .ref 149)]) C dX9_binds_37 rfl rfl (Nat.le_of_ble_eq_true rfl) rfl ?_
    refine r_sub [2, 1, 0] rfl ?_
    exact X9_binds_l38_ok  (fun _ _ _ h Z C hE => by exact X9_binds_j85_ok  h Z C hE) N _ _ _ _ h Z C hE
  · rw [if_neg c9] at h
    refine r_bipush (pc' := 35) C dX9_binds_33 rfl kb_m2 ?_
    have h := Option.some.inj h
    subst h
    exact r_ret C rfl dX9_binds_35 hE

/-! BorrowedWeightModel.way(II)I -/
def X9_way_l25 (N : Nat)  (k57 : Int32 → Int32 → Sg → Option (Int32 × Sg))  : Nat → Int32 → Int32 → Int32 → Sg → Option (Int32 × Sg)
  | 0, _, _, _, _ => none
  | n + 1, v1, v2, v3, σ =>
    if (gi σ 149 3) ≤ v3 then (k57 v1 v2 σ) else (if v3 = v2 then (if inb v3 8 = true then bnS (wi σ 168 v3.toNatClampNeg 0) fun σ15 => X9_way_l25 N k57 n v1 v2 (v3 + 1) σ15 else none) else (if inb v3 8 = true then bnS (wi σ 168 v3.toNatClampNeg 1000000) fun σ12 => X9_way_l25 N k57 n v1 v2 (v3 + 1) σ12 else none))
set_option maxRecDepth 100000 in
set_option maxHeartbeats 4000000 in
theorem X9_way_l25_ok {E : Ev}  {N : Nat} {k57 : Int32 → Int32 → Sg → Option (Int32 × Sg)}  (hk57 : ∀ (v1 : Int32) (v2 : Int32) (σ : Sg) (r : Int32 × Sg), k57 v1 v2 σ = some r → Gp E RX9 cX9_way (some .int) 6 (3) SH0 r.2 (some (.int r.1)) σ 57 [(0, .ref 149), (1, .int v1), (2, .int v2)] []) : ∀ (n : Nat) (v1 : Int32) (v2 : Int32) (v3 : Int32) (σ : Sg) (r : Int32 × Sg), X9_way_l25 N k57 n v1 v2 v3 σ = some r → Gp E RX9 cX9_way (some .int) 6 (3) SH0 r.2 (some (.int r.1)) σ 25 [(0, .ref 149), (1, .int v1), (2, .int v2), (3, .int v3)] [] := by
  intro n
  induction n with
  | zero => intro v1 v2 v3 σ r h; cases h
  | succ n ih =>
    intro v1 v2 v3 σ r h Z C hE
    unfold X9_way_l25 at h
    refine r_iload_n (pc' := 26) C dX9_way_25 rfl 3 rfl ?_
    refine r_aload_n (pc' := 27) C dX9_way_26 rfl 0 rfl ?_
    refine r_getI (pc' := 30) C flX9_116 sh_149 rfl dX9_way_27 rfl ?_
    refine r_icmp_ge (tgt := 57) (pc' := 33) C dX9_way_30 rfl rfl (fun c9 => ?_) (fun c9 => ?_)
    · rw [if_pos c9] at h
      refine r_sub [0, 1, 2] rfl ?_
      exact hk57 _ _ _ _ h Z C hE
    · rw [if_neg c9] at h
      refine r_aload_n (pc' := 34) C dX9_way_33 rfl 0 rfl ?_
      refine r_getR (pc' := 37) C flX9_79 sh_149 rfl dX9_way_34 rfl ?_
      refine r_iload_n (pc' := 38) C dX9_way_37 rfl 3 rfl ?_
      refine r_iload_n (pc' := 39) C dX9_way_38 rfl 3 rfl ?_
      refine r_iload_n (pc' := 40) C dX9_way_39 rfl 2 rfl ?_
      refine r_icmp_ne (tgt := 47) (pc' := 43) C dX9_way_40 rfl rfl (fun c10 => ?_) (fun c10 => ?_)
      · rw [if_neg c10] at h
        refine r_ldcw (pc' := 50) C cnX9_365 dX9_way_47 rfl ?_
        obtain ⟨q11, h⟩ := ck h
        obtain ⟨σ12, e13, h⟩ := bs h
        refine r_iast (pc' := 51) (σ1 := σ12) C sh_168 (vin q11) dX9_way_50 rfl e13 ?_
        refine r_iinc (pc' := 54) (v := v3 + 1) (lv2 := [(3, .int (v3 + 1)), (0, .ref 149), (1, .int v1), (2, .int v2)]) C dX9_way_51 rfl 3 rfl rfl (Nat.le_of_ble_eq_true rfl) rfl ?_
        refine r_goto (tgt := 25) C dX9_way_54 rfl ?_
        refine r_sub [1, 2, 3, 0] rfl ?_
        exact ih _ _ _ _ _ h Z C hE
      · rw [if_pos c10] at h
        refine r_iconst (pc' := 44) C dX9_way_43 rfl kc_0 ?_
        refine r_goto (tgt := 50) C dX9_way_44 rfl ?_
        obtain ⟨q14, h⟩ := ck h
        obtain ⟨σ15, e16, h⟩ := bs h
        refine r_iast (pc' := 51) (σ1 := σ15) C sh_168 (vin q14) dX9_way_50 rfl e16 ?_
        refine r_iinc (pc' := 54) (v := v3 + 1) (lv2 := [(3, .int (v3 + 1)), (0, .ref 149), (1, .int v1), (2, .int v2)]) C dX9_way_51 rfl 3 rfl rfl (Nat.le_of_ble_eq_true rfl) rfl ?_
        refine r_goto (tgt := 25) C dX9_way_54 rfl ?_
        refine r_sub [1, 2, 3, 0] rfl ?_
        exact ih _ _ _ _ _ h Z C hE
def X9_way_l82 (N : Nat)  (k151 : Int32 → Int32 → Int32 → Int32 → Sg → Option (Int32 × Sg))  : Nat → Int32 → Int32 → Int32 → Int32 → Int32 → Sg → Option (Int32 × Sg)
  | 0, _, _, _, _, _, _ => none
  | n + 1, v1, v2, v3, v4, v5, σ =>
    if (gi σ 149 3) ≤ v5 then (k151 v1 v2 v3 v4 σ) else (if inb (24 + v4) 37 = true then (X9_has N (gi σ 153 (24 + v4).toNatClampNeg) v5 σ).bind fun r21 => (if r21 = 0 then (if inb v4 8 = true then if inb v4 8 = true then bnS (wi σ 168 v4.toNatClampNeg (gi σ 168 v4.toNatClampNeg)) fun σ26 => X9_way_l82 N k151 n v1 v2 v3 v4 (v5 + 1) σ26 else none else none) else (if inb v4 8 = true then if inb v5 8 = true then (J9_min_7cf53 N (gi σ 168 v4.toNatClampNeg) ((gi σ 168 v5.toNatClampNeg) + 1) σ).bind fun r30 => (if inb v4 8 = true then bnS (wi σ 168 v4.toNatClampNeg r30) fun σ33 => X9_way_l82 N k151 n v1 v2 v3 v4 (v5 + 1) σ33 else none) else none else none)) else none)
set_option maxRecDepth 100000 in
set_option maxHeartbeats 4000000 in
theorem X9_way_l82_ok {E : Ev}  {N : Nat} {k151 : Int32 → Int32 → Int32 → Int32 → Sg → Option (Int32 × Sg)}  (hk151 : ∀ (v1 : Int32) (v2 : Int32) (v3 : Int32) (v4 : Int32) (σ : Sg) (r : Int32 × Sg), k151 v1 v2 v3 v4 σ = some r → Gp E RX9 cX9_way (some .int) 6 (3) SH0 r.2 (some (.int r.1)) σ 151 [(0, .ref 149), (1, .int v1), (2, .int v2), (3, .int v3), (4, .int v4)] []) : ∀ (n : Nat) (v1 : Int32) (v2 : Int32) (v3 : Int32) (v4 : Int32) (v5 : Int32) (σ : Sg) (r : Int32 × Sg), X9_way_l82 N k151 n v1 v2 v3 v4 v5 σ = some r → Gp E RX9 cX9_way (some .int) 6 (3) SH0 r.2 (some (.int r.1)) σ 82 [(0, .ref 149), (1, .int v1), (2, .int v2), (3, .int v3), (4, .int v4), (5, .int v5)] [] := by
  intro n
  induction n with
  | zero => intro v1 v2 v3 v4 v5 σ r h; cases h
  | succ n ih =>
    intro v1 v2 v3 v4 v5 σ r h Z C hE
    unfold X9_way_l82 at h
    refine r_iload (pc' := 84) C dX9_way_82 rfl 5 rfl ?_
    refine r_aload_n (pc' := 85) C dX9_way_84 rfl 0 rfl ?_
    refine r_getI (pc' := 88) C flX9_116 sh_149 rfl dX9_way_85 rfl ?_
    refine r_icmp_ge (tgt := 151) (pc' := 91) C dX9_way_88 rfl rfl (fun c19 => ?_) (fun c19 => ?_)
    · rw [if_pos c19] at h
      refine r_sub [0, 1, 2, 3, 4] rfl ?_
      exact hk151 _ _ _ _ _ _ h Z C hE
    · rw [if_neg c19] at h
      refine r_aload_n (pc' := 92) C dX9_way_91 rfl 0 rfl ?_
      refine r_getR (pc' := 95) C flX9_79 sh_149 rfl dX9_way_92 rfl ?_
      refine r_iload (pc' := 97) C dX9_way_95 rfl 4 rfl ?_
      refine r_aload_n (pc' := 98) C dX9_way_97 rfl 0 rfl ?_
      refine r_getR (pc' := 101) C flX9_34 sh_149 rfl dX9_way_98 rfl ?_
      refine r_bipush (pc' := 103) C dX9_way_101 rfl kb_24 ?_
      refine r_iload (pc' := 105) C dX9_way_103 rfl 4 rfl ?_
      refine r_iadd (pc' := 106) C dX9_way_105 rfl ?_
      obtain ⟨q20, h⟩ := ck h
      refine r_iald (pc' := 107) C sh_153 (vin q20) dX9_way_106 rfl ?_
      refine r_iload (pc' := 109) C dX9_way_107 rfl 5 rfl ?_
      obtain ⟨r21, e22, h⟩ := bd h
      refine r_cS1 (pc' := 112) C (X9_has_ok  e22) mlX9_127 ceX9_has csX9_has rfl (Nat.le_of_ble_eq_true rfl) rfl (Nat.le_of_ble_eq_true rfl) dX9_way_109 rfl (kk := ?_)
      refine r_if_eq (tgt := 137) (pc' := 115) C dX9_way_112 rfl rfl (fun c23 => ?_) (fun c23 => ?_)
      · rw [if_pos c23] at h
        refine r_aload_n (pc' := 138) C dX9_way_137 rfl 0 rfl ?_
        refine r_getR (pc' := 141) C flX9_79 sh_149 rfl dX9_way_138 rfl ?_
        refine r_iload (pc' := 143) C dX9_way_141 rfl 4 rfl ?_
        obtain ⟨q24, h⟩ := ck h
        refine r_iald (pc' := 144) C sh_168 (vin q24) dX9_way_143 rfl ?_
        obtain ⟨q25, h⟩ := ck h
        obtain ⟨σ26, e27, h⟩ := bs h
        refine r_iast (pc' := 145) (σ1 := σ26) C sh_168 (vin q25) dX9_way_144 rfl e27 ?_
        refine r_iinc (pc' := 148) (v := v5 + 1) (lv2 := [(5, .int (v5 + 1)), (0, .ref 149), (1, .int v1), (2, .int v2), (3, .int v3), (4, .int v4)]) C dX9_way_145 rfl 5 rfl rfl (Nat.le_of_ble_eq_true rfl) rfl ?_
        refine r_goto (tgt := 82) C dX9_way_148 rfl ?_
        refine r_sub [1, 2, 3, 4, 5, 0] rfl ?_
        exact ih _ _ _ _ _ _ _ h Z C hE
      · rw [if_neg c23] at h
        refine r_aload_n (pc' := 116) C dX9_way_115 rfl 0 rfl ?_
        refine r_getR (pc' := 119) C flX9_79 sh_149 rfl dX9_way_116 rfl ?_
        refine r_iload (pc' := 121) C dX9_way_119 rfl 4 rfl ?_
        obtain ⟨q28, h⟩ := ck h
        refine r_iald (pc' := 122) C sh_168 (vin q28) dX9_way_121 rfl ?_
        refine r_aload_n (pc' := 123) C dX9_way_122 rfl 0 rfl ?_
        refine r_getR (pc' := 126) C flX9_79 sh_149 rfl dX9_way_123 rfl ?_
        refine r_iload (pc' := 128) C dX9_way_126 rfl 5 rfl ?_
        obtain ⟨q29, h⟩ := ck h
        refine r_iald (pc' := 129) C sh_168 (vin q29) dX9_way_128 rfl ?_
        refine r_iconst (pc' := 130) C dX9_way_129 rfl kc_1 ?_
        refine r_iadd (pc' := 131) C dX9_way_130 rfl ?_
        obtain ⟨r30, e31, h⟩ := bd h
        refine r_cS1 (pc' := 134) C (J9_min_7cf53_ok  e31) mlX9_150 ceJ9_min_7cf53 csJ9_min_7cf53 rfl (Nat.le_of_ble_eq_true rfl) rfl (Nat.le_of_ble_eq_true rfl) dX9_way_131 rfl (kk := ?_)
        refine r_goto (tgt := 144) C dX9_way_134 rfl ?_
        obtain ⟨q32, h⟩ := ck h
        obtain ⟨σ33, e34, h⟩ := bs h
        refine r_iast (pc' := 145) (σ1 := σ33) C sh_168 (vin q32) dX9_way_144 rfl e34 ?_
        refine r_iinc (pc' := 148) (v := v5 + 1) (lv2 := [(5, .int (v5 + 1)), (0, .ref 149), (1, .int v1), (2, .int v2), (3, .int v3), (4, .int v4)]) C dX9_way_145 rfl 5 rfl rfl (Nat.le_of_ble_eq_true rfl) rfl ?_
        refine r_goto (tgt := 82) C dX9_way_148 rfl ?_
        refine r_sub [1, 2, 3, 4, 5, 0] rfl ?_
        exact ih _ _ _ _ _ _ _ h Z C hE
def X9_way_j151 (N : Nat)  (kr : Int32 → Int32 → Int32 → Int32 → Sg → Option (Int32 × Sg)) (v1 : Int32) (v2 : Int32) (v3 : Int32) (v4 : Int32) (σ : Sg) : Option (Int32 × Sg) :=
  kr v1 v2 v3 (v4 + 1) σ
set_option maxRecDepth 100000 in
set_option maxHeartbeats 4000000 in
theorem X9_way_j151_ok {E : Ev}  {N : Nat} {kr : Int32 → Int32 → Int32 → Int32 → Sg → Option (Int32 × Sg)}  (hkr : ∀ (v1 : Int32) (v2 : Int32) (v3 : Int32) (v4 : Int32) (σ : Sg) (r : Int32 × Sg), kr v1 v2 v3 v4 σ = some r → Gp E RX9 cX9_way (some .int) 6 (3) SH0 r.2 (some (.int r.1)) σ 70 [(0, .ref 149), (1, .int v1), (2, .int v2), (3, .int v3), (4, .int v4)] []) {v1 : Int32} {v2 : Int32} {v3 : Int32} {v4 : Int32} {σ : Sg} {r : Int32 × Sg} (h : X9_way_j151 N  kr v1 v2 v3 v4 σ = some r) : Gp E RX9 cX9_way (some .int) 6 (3) SH0 r.2 (some (.int r.1)) σ 151 [(0, .ref 149), (1, .int v1), (2, .int v2), (3, .int v3), (4, .int v4)] [] := by
  intro Z C hE
  unfold X9_way_j151 at h
  refine r_iinc (pc' := 154) (v := v4 + 1) (lv2 := [(4, .int (v4 + 1)), (0, .ref 149), (1, .int v1), (2, .int v2), (3, .int v3)]) C dX9_way_151 rfl 4 rfl rfl (Nat.le_of_ble_eq_true rfl) rfl ?_
  refine r_goto (tgt := 70) C dX9_way_154 rfl ?_
  refine r_sub [1, 2, 3, 4, 0] rfl ?_
  exact hkr _ _ _ _ _ _ h Z C hE
def X9_way_l70 (N : Nat)  (k157 : Int32 → Int32 → Int32 → Sg → Option (Int32 × Sg))  : Nat → Int32 → Int32 → Int32 → Int32 → Sg → Option (Int32 × Sg)
  | 0, _, _, _, _, _ => none
  | n + 1, v1, v2, v3, v4, σ =>
    if (gi σ 149 3) ≤ v4 then (k157 v1 v2 v3 σ) else (X9_way_l82 N (fun v1 v2 v3 v4 σ => X9_way_j151 N (fun v1 v2 v3 v4 σ => X9_way_l70 N k157 n v1 v2 v3 v4 σ) v1 v2 v3 v4 σ) N v1 v2 v3 v4 0 σ)
set_option maxRecDepth 100000 in
set_option maxHeartbeats 4000000 in
theorem X9_way_l70_ok {E : Ev}  {N : Nat} {k157 : Int32 → Int32 → Int32 → Sg → Option (Int32 × Sg)}  (hk157 : ∀ (v1 : Int32) (v2 : Int32) (v3 : Int32) (σ : Sg) (r : Int32 × Sg), k157 v1 v2 v3 σ = some r → Gp E RX9 cX9_way (some .int) 6 (3) SH0 r.2 (some (.int r.1)) σ 157 [(0, .ref 149), (1, .int v1), (2, .int v2), (3, .int v3)] []) : ∀ (n : Nat) (v1 : Int32) (v2 : Int32) (v3 : Int32) (v4 : Int32) (σ : Sg) (r : Int32 × Sg), X9_way_l70 N k157 n v1 v2 v3 v4 σ = some r → Gp E RX9 cX9_way (some .int) 6 (3) SH0 r.2 (some (.int r.1)) σ 70 [(0, .ref 149), (1, .int v1), (2, .int v2), (3, .int v3), (4, .int v4)] [] := by
  intro n
  induction n with
  | zero => intro v1 v2 v3 v4 σ r h; cases h
  | succ n ih =>
    intro v1 v2 v3 v4 σ r h Z C hE
    unfold X9_way_l70 at h
    refine r_iload (pc' := 72) C dX9_way_70 rfl 4 rfl ?_
    refine r_aload_n (pc' := 73) C dX9_way_72 rfl 0 rfl ?_
    refine r_getI (pc' := 76) C flX9_116 sh_149 rfl dX9_way_73 rfl ?_
    refine r_icmp_ge (tgt := 157) (pc' := 79) C dX9_way_76 rfl rfl (fun c18 => ?_) (fun c18 => ?_)
    · rw [if_pos c18] at h
      refine r_sub [0, 1, 2, 3] rfl ?_
      exact hk157 _ _ _ _ _ h Z C hE
    · rw [if_neg c18] at h
      refine r_iconst (pc' := 80) C dX9_way_79 rfl kc_0 ?_
      refine r_istore (pc' := 82) (lv2 := [(5, .int 0), (0, .ref 149), (1, .int v1), (2, .int v2), (3, .int v3), (4, .int v4)]) C dX9_way_80 rfl (Nat.le_of_ble_eq_true rfl) rfl ?_
      refine r_sub [1, 2, 3, 4, 5, 0] rfl ?_
      exact X9_way_l82_ok  (fun _ _ _ _ _ _ h Z C hE => by exact X9_way_j151_ok  ih h Z C hE) N _ _ _ _ _ _ _ h Z C hE
def X9_way_j157 (N : Nat)  (kr : Int32 → Int32 → Int32 → Sg → Option (Int32 × Sg)) (v1 : Int32) (v2 : Int32) (v3 : Int32) (σ : Sg) : Option (Int32 × Sg) :=
  kr v1 v2 (v3 + 1) σ
set_option maxRecDepth 100000 in
set_option maxHeartbeats 4000000 in
theorem X9_way_j157_ok {E : Ev}  {N : Nat} {kr : Int32 → Int32 → Int32 → Sg → Option (Int32 × Sg)}  (hkr : ∀ (v1 : Int32) (v2 : Int32) (v3 : Int32) (σ : Sg) (r : Int32 × Sg), kr v1 v2 v3 σ = some r → Gp E RX9 cX9_way (some .int) 6 (3) SH0 r.2 (some (.int r.1)) σ 59 [(0, .ref 149), (1, .int v1), (2, .int v2), (3, .int v3)] []) {v1 : Int32} {v2 : Int32} {v3 : Int32} {σ : Sg} {r : Int32 × Sg} (h : X9_way_j157 N  kr v1 v2 v3 σ = some r) : Gp E RX9 cX9_way (some .int) 6 (3) SH0 r.2 (some (.int r.1)) σ 157 [(0, .ref 149), (1, .int v1), (2, .int v2), (3, .int v3)] [] := by
  intro Z C hE
  unfold X9_way_j157 at h
  refine r_iinc (pc' := 160) (v := v3 + 1) (lv2 := [(3, .int (v3 + 1)), (0, .ref 149), (1, .int v1), (2, .int v2)]) C dX9_way_157 rfl 3 rfl rfl (Nat.le_of_ble_eq_true rfl) rfl ?_
  refine r_goto (tgt := 59) C dX9_way_160 rfl ?_
  refine r_sub [1, 2, 3, 0] rfl ?_
  exact hkr _ _ _ _ _ h Z C hE
def X9_way_l59 (N : Nat)  (k163 : Int32 → Int32 → Sg → Option (Int32 × Sg))  : Nat → Int32 → Int32 → Int32 → Sg → Option (Int32 × Sg)
  | 0, _, _, _, _ => none
  | n + 1, v1, v2, v3, σ =>
    if (gi σ 149 3) ≤ v3 then (k163 v1 v2 σ) else (X9_way_l70 N (fun v1 v2 v3 σ => X9_way_j157 N (fun v1 v2 v3 σ => X9_way_l59 N k163 n v1 v2 v3 σ) v1 v2 v3 σ) N v1 v2 v3 0 σ)
set_option maxRecDepth 100000 in
set_option maxHeartbeats 4000000 in
theorem X9_way_l59_ok {E : Ev}  {N : Nat} {k163 : Int32 → Int32 → Sg → Option (Int32 × Sg)}  (hk163 : ∀ (v1 : Int32) (v2 : Int32) (σ : Sg) (r : Int32 × Sg), k163 v1 v2 σ = some r → Gp E RX9 cX9_way (some .int) 6 (3) SH0 r.2 (some (.int r.1)) σ 163 [(0, .ref 149), (1, .int v1), (2, .int v2)] []) : ∀ (n : Nat) (v1 : Int32) (v2 : Int32) (v3 : Int32) (σ : Sg) (r : Int32 × Sg), X9_way_l59 N k163 n v1 v2 v3 σ = some r → Gp E RX9 cX9_way (some .int) 6 (3) SH0 r.2 (some (.int r.1)) σ 59 [(0, .ref 149), (1, .int v1), (2, .int v2), (3, .int v3)] [] := by
  intro n
  induction n with
  | zero => intro v1 v2 v3 σ r h; cases h
  | succ n ih =>
    intro v1 v2 v3 σ r h Z C hE
    unfold X9_way_l59 at h
    refine r_iload_n (pc' := 60) C dX9_way_59 rfl 3 rfl ?_
    refine r_aload_n (pc' := 61) C dX9_way_60 rfl 0 rfl ?_
    refine r_getI (pc' := 64) C flX9_116 sh_149 rfl dX9_way_61 rfl ?_
    refine r_icmp_ge (tgt := 163) (pc' := 67) C dX9_way_64 rfl rfl (fun c17 => ?_) (fun c17 => ?_)
    · rw [if_pos c17] at h
      refine r_sub [0, 1, 2] rfl ?_
      exact hk163 _ _ _ _ h Z C hE
    · rw [if_neg c17] at h
      refine r_iconst (pc' := 68) C dX9_way_67 rfl kc_0 ?_
      refine r_istore (pc' := 70) (lv2 := [(4, .int 0), (0, .ref 149), (1, .int v1), (2, .int v2), (3, .int v3)]) C dX9_way_68 rfl (Nat.le_of_ble_eq_true rfl) rfl ?_
      refine r_sub [1, 2, 3, 4, 0] rfl ?_
      exact X9_way_l70_ok  (fun _ _ _ _ _ h Z C hE => by exact X9_way_j157_ok  ih h Z C hE) N _ _ _ _ _ _ h Z C hE
def X9_way_l223 (N : Nat)  (k264 : Int32 → Int32 → Int32 → Sg → Option (Int32 × Sg))  : Nat → Int32 → Int32 → Int32 → Int32 → Sg → Option (Int32 × Sg)
  | 0, _, _, _, _, _ => none
  | n + 1, v1, v2, v3, v4, σ =>
    if inb (24 + v3) 37 = true then (X9_has N (gi σ 153 (24 + v3).toNatClampNeg) v4 σ).bind fun r50 => (if r50 = 0 then (X9_way_l223 N k264 n v1 v2 v3 (v4 + 1) σ) else (if inb v4 8 = true then if inb v3 8 = true then if (gi σ 168 v4.toNatClampNeg) = ((gi σ 168 v3.toNatClampNeg) - 1) then (k264 v1 v2 v4 σ) else (X9_way_l223 N k264 n v1 v2 v3 (v4 + 1) σ) else none else none)) else none
set_option maxRecDepth 100000 in
set_option maxHeartbeats 4000000 in
theorem X9_way_l223_ok {E : Ev}  {N : Nat} {k264 : Int32 → Int32 → Int32 → Sg → Option (Int32 × Sg)}  (hk264 : ∀ (v1 : Int32) (v2 : Int32) (v4 : Int32) (σ : Sg) (r : Int32 × Sg), k264 v1 v2 v4 σ = some r → Gp E RX9 cX9_way (some .int) 6 (3) SH0 r.2 (some (.int r.1)) σ 264 [(0, .ref 149), (1, .int v1), (2, .int v2), (4, .int v4)] []) : ∀ (n : Nat) (v1 : Int32) (v2 : Int32) (v3 : Int32) (v4 : Int32) (σ : Sg) (r : Int32 × Sg), X9_way_l223 N k264 n v1 v2 v3 v4 σ = some r → Gp E RX9 cX9_way (some .int) 6 (3) SH0 r.2 (some (.int r.1)) σ 223 [(0, .ref 149), (1, .int v1), (2, .int v2), (3, .int v3), (4, .int v4)] [] := by
  intro n
  induction n with
  | zero => intro v1 v2 v3 v4 σ r h; cases h
  | succ n ih =>
    intro v1 v2 v3 v4 σ r h Z C hE
    unfold X9_way_l223 at h
    refine r_aload_n (pc' := 224) C dX9_way_223 rfl 0 rfl ?_
    refine r_getR (pc' := 227) C flX9_34 sh_149 rfl dX9_way_224 rfl ?_
    refine r_bipush (pc' := 229) C dX9_way_227 rfl kb_24 ?_
    refine r_iload_n (pc' := 230) C dX9_way_229 rfl 3 rfl ?_
    refine r_iadd (pc' := 231) C dX9_way_230 rfl ?_
    obtain ⟨q49, h⟩ := ck h
    refine r_iald (pc' := 232) C sh_153 (vin q49) dX9_way_231 rfl ?_
    refine r_iload (pc' := 234) C dX9_way_232 rfl 4 rfl ?_
    obtain ⟨r50, e51, h⟩ := bd h
    refine r_cS1 (pc' := 237) C (X9_has_ok  e51) mlX9_127 ceX9_has csX9_has rfl (Nat.le_of_ble_eq_true rfl) rfl (Nat.le_of_ble_eq_true rfl) dX9_way_234 rfl (kk := ?_)
    refine r_if_eq (tgt := 258) (pc' := 240) C dX9_way_237 rfl rfl (fun c52 => ?_) (fun c52 => ?_)
    · rw [if_pos c52] at h
      refine r_iinc (pc' := 261) (v := v4 + 1) (lv2 := [(4, .int (v4 + 1)), (0, .ref 149), (1, .int v1), (2, .int v2), (3, .int v3)]) C dX9_way_258 rfl 4 rfl rfl (Nat.le_of_ble_eq_true rfl) rfl ?_
      refine r_goto (tgt := 223) C dX9_way_261 rfl ?_
      refine r_sub [1, 2, 3, 4, 0] rfl ?_
      exact ih _ _ _ _ _ _ h Z C hE
    · rw [if_neg c52] at h
      refine r_aload_n (pc' := 241) C dX9_way_240 rfl 0 rfl ?_
      refine r_getR (pc' := 244) C flX9_79 sh_149 rfl dX9_way_241 rfl ?_
      refine r_iload (pc' := 246) C dX9_way_244 rfl 4 rfl ?_
      obtain ⟨q53, h⟩ := ck h
      refine r_iald (pc' := 247) C sh_168 (vin q53) dX9_way_246 rfl ?_
      refine r_aload_n (pc' := 248) C dX9_way_247 rfl 0 rfl ?_
      refine r_getR (pc' := 251) C flX9_79 sh_149 rfl dX9_way_248 rfl ?_
      refine r_iload_n (pc' := 252) C dX9_way_251 rfl 3 rfl ?_
      obtain ⟨q54, h⟩ := ck h
      refine r_iald (pc' := 253) C sh_168 (vin q54) dX9_way_252 rfl ?_
      refine r_iconst (pc' := 254) C dX9_way_253 rfl kc_1 ?_
      refine r_isub (pc' := 255) C dX9_way_254 rfl ?_
      refine r_icmp_eq (tgt := 264) (pc' := 258) C dX9_way_255 rfl rfl (fun c55 => ?_) (fun c55 => ?_)
      · rw [if_pos c55] at h
        refine r_sub [0, 1, 2, 4] rfl ?_
        exact hk264 _ _ _ _ _ h Z C hE
      · rw [if_neg c55] at h
        refine r_iinc (pc' := 261) (v := v4 + 1) (lv2 := [(4, .int (v4 + 1)), (0, .ref 149), (1, .int v1), (2, .int v2), (3, .int v3)]) C dX9_way_258 rfl 4 rfl rfl (Nat.le_of_ble_eq_true rfl) rfl ?_
        refine r_goto (tgt := 223) C dX9_way_261 rfl ?_
        refine r_sub [1, 2, 3, 4, 0] rfl ?_
        exact ih _ _ _ _ _ _ h Z C hE
def X9_way_j264 (N : Nat)  (kr : Int32 → Int32 → Int32 → Sg → Option (Int32 × Sg)) (v1 : Int32) (v2 : Int32) (v4 : Int32) (σ : Sg) : Option (Int32 × Sg) :=
  (X9_enters N v4.toInt64 σ).bind fun r56 => (kr v1 v2 v4 r56)
set_option maxRecDepth 100000 in
set_option maxHeartbeats 4000000 in
theorem X9_way_j264_ok {E : Ev}  {N : Nat} {kr : Int32 → Int32 → Int32 → Sg → Option (Int32 × Sg)}  (hkr : ∀ (v1 : Int32) (v2 : Int32) (v3 : Int32) (σ : Sg) (r : Int32 × Sg), kr v1 v2 v3 σ = some r → Gp E RX9 cX9_way (some .int) 6 (3) SH0 r.2 (some (.int r.1)) σ 215 [(0, .ref 149), (1, .int v1), (2, .int v2), (3, .int v3)] []) {v1 : Int32} {v2 : Int32} {v4 : Int32} {σ : Sg} {r : Int32 × Sg} (h : X9_way_j264 N  kr v1 v2 v4 σ = some r) : Gp E RX9 cX9_way (some .int) 6 (3) SH0 r.2 (some (.int r.1)) σ 264 [(0, .ref 149), (1, .int v1), (2, .int v2), (4, .int v4)] [] := by
  intro Z C hE
  unfold X9_way_j264 at h
  refine r_iload (pc' := 266) C dX9_way_264 rfl 3 rfl ?_
  refine r_istore_n (pc' := 267) (lv2 := [(3, .int v4), (0, .ref 149), (1, .int v1), (2, .int v2), (4, .int v4)]) C dX9_way_266 rfl rfl (Nat.le_of_ble_eq_true rfl) rfl ?_
  refine r_aload_n (pc' := 268) C dX9_way_267 rfl 1 rfl ?_
  refine r_iload_n (pc' := 269) C dX9_way_268 rfl 0 rfl ?_
  refine r_i2l (pc' := 270) C dX9_way_269 rfl rfl ?_
  obtain ⟨r56, e57, h⟩ := bd h
  refine r_cV0 (pc' := 273) C (X9_enters_ok  e57) mlX9_327 ceX9_enters cvX9_enters sh_149 rfl rfl rfl (Nat.le_of_ble_eq_true rfl) rfl (Nat.le_of_ble_eq_true rfl) dX9_way_270 rfl (kk := ?_)
  refine r_goto (tgt := 215) C dX9_way_273 rfl ?_
  refine r_sub [1, 2, 3, 0] rfl ?_
  exact hkr _ _ _ _ _ h Z C hE
def X9_way_l215 (N : Nat)    : Nat → Int32 → Int32 → Int32 → Sg → Option (Int32 × Sg)
  | 0, _, _, _, _ => none
  | n + 1, v1, v2, v3, σ =>
    if v3 = v2 then (if inb v1 8 = true then some (gi σ 168 v1.toNatClampNeg, σ) else none) else (X9_way_l223 N (fun v1 v2 v4 σ => X9_way_j264 N (fun v1 v2 v3 σ => X9_way_l215 N n v1 v2 v3 σ) v1 v2 v4 σ) N v1 v2 v3 0 σ)
set_option maxRecDepth 100000 in
set_option maxHeartbeats 4000000 in
theorem X9_way_l215_ok {E : Ev}  {N : Nat}    : ∀ (n : Nat) (v1 : Int32) (v2 : Int32) (v3 : Int32) (σ : Sg) (r : Int32 × Sg), X9_way_l215 N n v1 v2 v3 σ = some r → Gp E RX9 cX9_way (some .int) 6 (3) SH0 r.2 (some (.int r.1)) σ 215 [(0, .ref 149), (1, .int v1), (2, .int v2), (3, .int v3)] [] := by
  intro n
  induction n with
  | zero => intro v1 v2 v3 σ r h; cases h
  | succ n ih =>
    intro v1 v2 v3 σ r h Z C hE
    unfold X9_way_l215 at h
    refine r_iload_n (pc' := 216) C dX9_way_215 rfl 3 rfl ?_
    refine r_iload_n (pc' := 217) C dX9_way_216 rfl 2 rfl ?_
    refine r_icmp_eq (tgt := 276) (pc' := 220) C dX9_way_217 rfl rfl (fun c47 => ?_) (fun c47 => ?_)
    · rw [if_pos c47] at h
      refine r_aload_n (pc' := 277) C dX9_way_276 rfl 0 rfl ?_
      refine r_getR (pc' := 280) C flX9_79 sh_149 rfl dX9_way_277 rfl ?_
      refine r_iload_n (pc' := 281) C dX9_way_280 rfl 1 rfl ?_
      obtain ⟨q48, h⟩ := ck h
      refine r_iald (pc' := 282) C sh_168 (vin q48) dX9_way_281 rfl ?_
      have h := Option.some.inj h
      subst h
      exact r_ret C rfl dX9_way_282 hE
    · rw [if_neg c47] at h
      refine r_iconst (pc' := 221) C dX9_way_220 rfl kc_0 ?_
      refine r_istore (pc' := 223) (lv2 := [(4, .int 0), (0, .ref 149), (1, .int v1), (2, .int v2), (3, .int v3)]) C dX9_way_221 rfl (Nat.le_of_ble_eq_true rfl) rfl ?_
      refine r_sub [1, 2, 3, 4, 0] rfl ?_
      exact X9_way_l223_ok  (fun _ _ _ _ _ h Z C hE => by exact X9_way_j264_ok  ih h Z C hE) N _ _ _ _ _ _ h Z C hE
def X9_way_j163 (N : Nat)   (v1 : Int32) (v2 : Int32) (σ : Sg) : Option (Int32 × Sg) :=
  if inb v1 8 = true then if 1000000 ≤ (gi σ 168 v1.toNatClampNeg) then (some ((-2), σ)) else ((X9_isHere N 153 v1 σ).bind fun r37 => (if r37 = 0 then (some ((-2), σ)) else ((X9_isHere N 153 v2 σ).bind fun r40 => (if r40 = 0 then (some ((-2), σ)) else (bnS (wi σ 149 1 0) fun σ43 => (X9_enters N v1.toInt64 σ43).bind fun r45 => (X9_way_l215 N N v1 v2 v1 r45)))))) else none
set_option maxRecDepth 100000 in
set_option maxHeartbeats 4000000 in
theorem X9_way_j163_ok {E : Ev}  {N : Nat}    {v1 : Int32} {v2 : Int32} {σ : Sg} {r : Int32 × Sg} (h : X9_way_j163 N   v1 v2 σ = some r) : Gp E RX9 cX9_way (some .int) 6 (3) SH0 r.2 (some (.int r.1)) σ 163 [(0, .ref 149), (1, .int v1), (2, .int v2)] [] := by
  intro Z C hE
  unfold X9_way_j163 at h
  refine r_aload_n (pc' := 164) C dX9_way_163 rfl 0 rfl ?_
  refine r_getR (pc' := 167) C flX9_79 sh_149 rfl dX9_way_164 rfl ?_
  refine r_iload_n (pc' := 168) C dX9_way_167 rfl 1 rfl ?_
  obtain ⟨q35, h⟩ := ck h
  refine r_iald (pc' := 169) C sh_168 (vin q35) dX9_way_168 rfl ?_
  refine r_ldcw (pc' := 172) C cnX9_365 dX9_way_169 rfl ?_
  refine r_icmp_ge (tgt := 199) (pc' := 175) C dX9_way_172 rfl rfl (fun c36 => ?_) (fun c36 => ?_)
  · rw [if_pos c36] at h
    refine r_bipush (pc' := 201) C dX9_way_199 rfl kb_m2 ?_
    have h := Option.some.inj h
    subst h
    exact r_ret C rfl dX9_way_201 hE
  · rw [if_neg c36] at h
    refine r_aload_n (pc' := 176) C dX9_way_175 rfl 0 rfl ?_
    refine r_aload_n (pc' := 177) C dX9_way_176 rfl 0 rfl ?_
    refine r_getR (pc' := 180) C flX9_34 sh_149 rfl dX9_way_177 rfl ?_
    refine r_iload_n (pc' := 181) C dX9_way_180 rfl 1 rfl ?_
    obtain ⟨r37, e38, h⟩ := bd h
    refine r_cV1 (pc' := 184) C (X9_isHere_ok mac_153 e38) mlX9_202 ceX9_isHere cvX9_isHere sh_149 rfl rfl rfl (Nat.le_of_ble_eq_true rfl) rfl (Nat.le_of_ble_eq_true rfl) dX9_way_181 rfl (kk := ?_)
    refine r_if_eq (tgt := 199) (pc' := 187) C dX9_way_184 rfl rfl (fun c39 => ?_) (fun c39 => ?_)
    · rw [if_pos c39] at h
      refine r_bipush (pc' := 201) C dX9_way_199 rfl kb_m2 ?_
      have h := Option.some.inj h
      subst h
      exact r_ret C rfl dX9_way_201 hE
    · rw [if_neg c39] at h
      refine r_aload_n (pc' := 188) C dX9_way_187 rfl 0 rfl ?_
      refine r_aload_n (pc' := 189) C dX9_way_188 rfl 0 rfl ?_
      refine r_getR (pc' := 192) C flX9_34 sh_149 rfl dX9_way_189 rfl ?_
      refine r_iload_n (pc' := 193) C dX9_way_192 rfl 2 rfl ?_
      obtain ⟨r40, e41, h⟩ := bd h
      refine r_cV1 (pc' := 196) C (X9_isHere_ok mac_153 e41) mlX9_202 ceX9_isHere cvX9_isHere sh_149 rfl rfl rfl (Nat.le_of_ble_eq_true rfl) rfl (Nat.le_of_ble_eq_true rfl) dX9_way_193 rfl (kk := ?_)
      refine r_if_ne (tgt := 202) (pc' := 199) C dX9_way_196 rfl rfl (fun c42 => ?_) (fun c42 => ?_)
      · rw [if_neg c42] at h
        refine r_aload_n (pc' := 203) C dX9_way_202 rfl 0 rfl ?_
        refine r_iconst (pc' := 204) C dX9_way_203 rfl kc_0 ?_
        obtain ⟨σ43, e44, h⟩ := bs h
        refine r_putI (pc' := 207) (σ1 := σ43) C fpX9_15 sh_149 rfl rfl rfl dX9_way_204 rfl e44 ?_
        refine r_iload_n (pc' := 208) C dX9_way_207 rfl 1 rfl ?_
        refine r_istore_n (pc' := 209) (lv2 := [(3, .int v1), (0, .ref 149), (1, .int v1), (2, .int v2)]) C dX9_way_208 rfl rfl (Nat.le_of_ble_eq_true rfl) rfl ?_
        refine r_aload_n (pc' := 210) C dX9_way_209 rfl 1 rfl ?_
        refine r_iload_n (pc' := 211) C dX9_way_210 rfl 0 rfl ?_
        refine r_i2l (pc' := 212) C dX9_way_211 rfl rfl ?_
        obtain ⟨r45, e46, h⟩ := bd h
        refine r_cV0 (pc' := 215) C (X9_enters_ok  e46) mlX9_327 ceX9_enters cvX9_enters sh_149 rfl rfl rfl (Nat.le_of_ble_eq_true rfl) rfl (Nat.le_of_ble_eq_true rfl) dX9_way_212 rfl (kk := ?_)
        refine r_sub [1, 2, 3, 0] rfl ?_
        exact X9_way_l215_ok  N _ _ _ _ _ h Z C hE
      · rw [if_pos c42] at h
        refine r_bipush (pc' := 201) C dX9_way_199 rfl kb_m2 ?_
        have h := Option.some.inj h
        subst h
        exact r_ret C rfl dX9_way_201 hE
def X9_way_j57 (N : Nat)   (v1 : Int32) (v2 : Int32) (σ : Sg) : Option (Int32 × Sg) :=
  X9_way_l59 N (fun v1 v2 σ => X9_way_j163 N v1 v2 σ) N v1 v2 0 σ
set_option maxRecDepth 100000 in
set_option maxHeartbeats 4000000 in
theorem X9_way_j57_ok {E : Ev}  {N : Nat}    {v1 : Int32} {v2 : Int32} {σ : Sg} {r : Int32 × Sg} (h : X9_way_j57 N   v1 v2 σ = some r) : Gp E RX9 cX9_way (some .int) 6 (3) SH0 r.2 (some (.int r.1)) σ 57 [(0, .ref 149), (1, .int v1), (2, .int v2)] [] := by
  intro Z C hE
  unfold X9_way_j57 at h
  refine r_iconst (pc' := 58) C dX9_way_57 rfl kc_0 ?_
  refine r_istore_n (pc' := 59) (lv2 := [(3, .int 0), (0, .ref 149), (1, .int v1), (2, .int v2)]) C dX9_way_58 rfl rfl (Nat.le_of_ble_eq_true rfl) rfl ?_
  refine r_sub [1, 2, 3, 0] rfl ?_
  exact X9_way_l59_ok  (fun _ _ _ _ h Z C hE => by exact X9_way_j163_ok  h Z C hE) N _ _ _ _ _ h Z C hE
def X9_way (N : Nat)  (v1 : Int32) (v2 : Int32) (σ : Sg) : Option (Int32 × Sg) :=
  bnS (wi σ 149 0 0) fun σ1 => (X9_isThing N v1 σ1).bind fun r3 => (if r3 = 0 then (some ((-1), σ1)) else ((X9_isThing N v2 σ1).bind fun r6 => (if r6 = 0 then (some ((-1), σ1)) else (X9_way_l25 N (fun v1 v2 σ => X9_way_j57 N v1 v2 σ) N v1 v2 0 σ1))))
set_option maxRecDepth 100000 in
set_option maxHeartbeats 4000000 in
theorem X9_way_ok {E : Ev}  {N : Nat} {v1 : Int32} {v2 : Int32} {σ : Sg} {r : Int32 × Sg} (h : X9_way N  v1 v2 σ = some r) : Cm E (3) yX9_way cX9_way 6 (some .int) [.ref 149, .int v1, .int v2] SH0 SH0 σ r.2 (some (.int r.1)) 0 0 := by
  refine Cm.intro (by decide +kernel) (Nat.le_of_ble_eq_true rfl) (fun _ h => by obtain ⟨_, _, _, _, _, _, h⟩ := h; exact h) (fun Z C hE => ?_)
  show Wm E Z 0 0 SH0 σ 0 [(0, .ref 149), (1, .int v1), (2, .int v2)] []
  unfold X9_way at h
  refine r_aload_n (pc' := 1) C dX9_way_0 rfl 0 rfl ?_
  refine r_iconst (pc' := 2) C dX9_way_1 rfl kc_0 ?_
  obtain ⟨σ1, e2, h⟩ := bs h
  refine r_putI (pc' := 5) (σ1 := σ1) C fpX9_3 sh_149 rfl rfl rfl dX9_way_2 rfl e2 ?_
  refine r_aload_n (pc' := 6) C dX9_way_5 rfl 0 rfl ?_
  refine r_iload_n (pc' := 7) C dX9_way_6 rfl 1 rfl ?_
  obtain ⟨r3, e4, h⟩ := bd h
  refine r_cV1 (pc' := 10) C (X9_isThing_ok  e4) mlX9_123 ceX9_isThing cvX9_isThing sh_149 rfl rfl rfl (Nat.le_of_ble_eq_true rfl) rfl (Nat.le_of_ble_eq_true rfl) dX9_way_7 rfl (kk := ?_)
  refine r_if_eq (tgt := 21) (pc' := 13) C dX9_way_10 rfl rfl (fun c5 => ?_) (fun c5 => ?_)
  · rw [if_pos c5] at h
    refine r_iconst (pc' := 22) C dX9_way_21 rfl kc_m1 ?_
    have h := Option.some.inj h
    subst h
    exact r_ret C rfl dX9_way_22 hE
  · rw [if_neg c5] at h
    refine r_aload_n (pc' := 14) C dX9_way_13 rfl 0 rfl ?_
    refine r_iload_n (pc' := 15) C dX9_way_14 rfl 2 rfl ?_
    obtain ⟨r6, e7, h⟩ := bd h
    refine r_cV1 (pc' := 18) C (X9_isThing_ok  e7) mlX9_123 ceX9_isThing cvX9_isThing sh_149 rfl rfl rfl (Nat.le_of_ble_eq_true rfl) rfl (Nat.le_of_ble_eq_true rfl) dX9_way_15 rfl (kk := ?_)
    refine r_if_ne (tgt := 23) (pc' := 21) C dX9_way_18 rfl rfl (fun c8 => ?_) (fun c8 => ?_)
    · rw [if_neg c8] at h
      refine r_iconst (pc' := 24) C dX9_way_23 rfl kc_0 ?_
      refine r_istore_n (pc' := 25) (lv2 := [(3, .int 0), (0, .ref 149), (1, .int v1), (2, .int v2)]) C dX9_way_24 rfl rfl (Nat.le_of_ble_eq_true rfl) rfl ?_
      refine r_sub [1, 2, 3, 0] rfl ?_
      exact X9_way_l25_ok  (fun _ _ _ _ h Z C hE => by exact X9_way_j57_ok  h Z C hE) N _ _ _ _ _ h Z C hE
    · rw [if_pos c8] at h
      refine r_iconst (pc' := 22) C dX9_way_21 rfl kc_m1 ?_
      have h := Option.some.inj h
      subst h
      exact r_ret C rfl dX9_way_22 hE
